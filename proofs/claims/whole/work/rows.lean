section
-- ===== PART A: goes FIRST, ahead of the names: the tables' words, and 'selects' of the private methods out of them =====
/-- a private method of a class that the tables say can be made, by its rows of tables_1 -/
def lw_okq (q : MethodName × Nat) : Prop := (q.1.cls ≠ "java/lang/invoke/MethodHandle" ∧ q.1.cls ≠ "java/lang/invoke/VarHandle") ∧ Cond.instantiable q.1.cls q.2 ∈ tables_1 ∧ Cond.privateMethod q.1 ∈ tables_1 ∧ Cond.instanceMethod q.1 ∈ tables_1
theorem lw_p0 : lw_okq (⟨"DiagramStore$Nodes", "isMisplaced", "(II)Z"⟩, 11) := ⟨⟨by decide +kernel, by decide +kernel⟩, List.mem_of_getElem? (i := 27) (by decide +kernel), List.mem_of_getElem? (i := 125) (by decide +kernel), List.mem_of_getElem? (i := 126) (by decide +kernel)⟩
theorem lw_p1 : lw_okq (⟨"DiagramStore$Nodes", "get", "(II)I"⟩, 11) := ⟨⟨by decide +kernel, by decide +kernel⟩, List.mem_of_getElem? (i := 27) (by decide +kernel), List.mem_of_getElem? (i := 129) (by decide +kernel), List.mem_of_getElem? (i := 130) (by decide +kernel)⟩
theorem lw_p2 : lw_okq (⟨"DiagramStore$Nodes", "isThereTwice", "(I)Z"⟩, 11) := ⟨⟨by decide +kernel, by decide +kernel⟩, List.mem_of_getElem? (i := 27) (by decide +kernel), List.mem_of_getElem? (i := 149) (by decide +kernel), List.mem_of_getElem? (i := 150) (by decide +kernel)⟩
theorem lw_p3 : lw_okq (⟨"java/lang/Throwable", "fillInStackTrace", "(I)Ljava/lang/Throwable;"⟩, 6) := ⟨⟨by decide +kernel, by decide +kernel⟩, List.mem_of_getElem? (i := 204) (by decide +kernel), List.mem_of_getElem? (i := 202) (by decide +kernel), List.mem_of_getElem? (i := 203) (by decide +kernel)⟩
theorem lw_p4 : lw_okq (⟨"DiagramStore", "put", "(II)Z"⟩, 4) := ⟨⟨by decide +kernel, by decide +kernel⟩, List.mem_of_getElem? (i := 16) (by decide +kernel), List.mem_of_getElem? (i := 234) (by decide +kernel), List.mem_of_getElem? (i := 235) (by decide +kernel)⟩
theorem lw_p5 : lw_okq (⟨"DiagramStore$Nodes", "set", "(III)V"⟩, 11) := ⟨⟨by decide +kernel, by decide +kernel⟩, List.mem_of_getElem? (i := 27) (by decide +kernel), List.mem_of_getElem? (i := 242) (by decide +kernel), List.mem_of_getElem? (i := 243) (by decide +kernel)⟩
theorem lw_p6 : lw_okq (⟨"DiagramStore$Algebra", "begin", "(I)V"⟩, 2) := ⟨⟨by decide +kernel, by decide +kernel⟩, List.mem_of_getElem? (i := 68) (by decide +kernel), List.mem_of_getElem? (i := 257) (by decide +kernel), List.mem_of_getElem? (i := 258) (by decide +kernel)⟩
theorem lw_p7 : lw_okq (⟨"DiagramStore$Nodes", "needed", "(I)I"⟩, 11) := ⟨⟨by decide +kernel, by decide +kernel⟩, List.mem_of_getElem? (i := 27) (by decide +kernel), List.mem_of_getElem? (i := 273) (by decide +kernel), List.mem_of_getElem? (i := 274) (by decide +kernel)⟩
theorem lw_p8 : lw_okq (⟨"DiagramStore$Nodes", "giveBack", "(I)V"⟩, 11) := ⟨⟨by decide +kernel, by decide +kernel⟩, List.mem_of_getElem? (i := 27) (by decide +kernel), List.mem_of_getElem? (i := 278) (by decide +kernel), List.mem_of_getElem? (i := 279) (by decide +kernel)⟩
theorem lw_p9 : lw_okq (⟨"DiagramStore$Nodes", "widen", "(I)V"⟩, 11) := ⟨⟨by decide +kernel, by decide +kernel⟩, List.mem_of_getElem? (i := 27) (by decide +kernel), List.mem_of_getElem? (i := 285) (by decide +kernel), List.mem_of_getElem? (i := 286) (by decide +kernel)⟩
theorem lw_p10 : lw_okq (⟨"DiagramStore$Nodes", "freshRow", "()I"⟩, 11) := ⟨⟨by decide +kernel, by decide +kernel⟩, List.mem_of_getElem? (i := 27) (by decide +kernel), List.mem_of_getElem? (i := 311) (by decide +kernel), List.mem_of_getElem? (i := 312) (by decide +kernel)⟩
theorem lw_p11 : lw_okq (⟨"DiagramStore$Nodes", "link", "(IIII)V"⟩, 11) := ⟨⟨by decide +kernel, by decide +kernel⟩, List.mem_of_getElem? (i := 27) (by decide +kernel), List.mem_of_getElem? (i := 315) (by decide +kernel), List.mem_of_getElem? (i := 316) (by decide +kernel)⟩
theorem lw_p12 : lw_okq (⟨"DiagramStore$Algebra", "pick", "(IIII)I"⟩, 2) := ⟨⟨by decide +kernel, by decide +kernel⟩, List.mem_of_getElem? (i := 68) (by decide +kernel), List.mem_of_getElem? (i := 330) (by decide +kernel), List.mem_of_getElem? (i := 331) (by decide +kernel)⟩
theorem lw_p13 : lw_okq (⟨"DiagramStore$Algebra", "freed", "(III)I"⟩, 2) := ⟨⟨by decide +kernel, by decide +kernel⟩, List.mem_of_getElem? (i := 68) (by decide +kernel), List.mem_of_getElem? (i := 382) (by decide +kernel), List.mem_of_getElem? (i := 383) (by decide +kernel)⟩
theorem lw_p14 : lw_okq (⟨"DiagramStore$Algebra", "hanging", "(II)I"⟩, 2) := ⟨⟨by decide +kernel, by decide +kernel⟩, List.mem_of_getElem? (i := 68) (by decide +kernel), List.mem_of_getElem? (i := 398) (by decide +kernel), List.mem_of_getElem? (i := 399) (by decide +kernel)⟩
theorem lw_p15 : lw_okq (⟨"DiagramStore$Algebra", "turnedFrom", "(IIIII)I"⟩, 2) := ⟨⟨by decide +kernel, by decide +kernel⟩, List.mem_of_getElem? (i := 68) (by decide +kernel), List.mem_of_getElem? (i := 402) (by decide +kernel), List.mem_of_getElem? (i := 403) (by decide +kernel)⟩
def lw_privs_1 : List (MethodName × Nat) := [(⟨"DiagramStore$Nodes", "isMisplaced", "(II)Z"⟩, 11), (⟨"DiagramStore$Nodes", "get", "(II)I"⟩, 11), (⟨"DiagramStore$Nodes", "isThereTwice", "(I)Z"⟩, 11), (⟨"java/lang/Throwable", "fillInStackTrace", "(I)Ljava/lang/Throwable;"⟩, 6), (⟨"DiagramStore", "put", "(II)Z"⟩, 4), (⟨"DiagramStore$Nodes", "set", "(III)V"⟩, 11), (⟨"DiagramStore$Algebra", "begin", "(I)V"⟩, 2), (⟨"DiagramStore$Nodes", "needed", "(I)I"⟩, 11), (⟨"DiagramStore$Nodes", "giveBack", "(I)V"⟩, 11), (⟨"DiagramStore$Nodes", "widen", "(I)V"⟩, 11), (⟨"DiagramStore$Nodes", "freshRow", "()I"⟩, 11), (⟨"DiagramStore$Nodes", "link", "(IIII)V"⟩, 11), (⟨"DiagramStore$Algebra", "pick", "(IIII)I"⟩, 2), (⟨"DiagramStore$Algebra", "freed", "(III)I"⟩, 2), (⟨"DiagramStore$Algebra", "hanging", "(II)I"⟩, 2), (⟨"DiagramStore$Algebra", "turnedFrom", "(IIIII)I"⟩, 2)]
theorem lw_r1 : ∀ q ∈ lw_privs_1, lw_okq q := List.forall_mem_cons.mpr ⟨lw_p0, List.forall_mem_cons.mpr ⟨lw_p1, List.forall_mem_cons.mpr ⟨lw_p2, List.forall_mem_cons.mpr ⟨lw_p3, List.forall_mem_cons.mpr ⟨lw_p4, List.forall_mem_cons.mpr ⟨lw_p5, List.forall_mem_cons.mpr ⟨lw_p6, List.forall_mem_cons.mpr ⟨lw_p7, List.forall_mem_cons.mpr ⟨lw_p8, List.forall_mem_cons.mpr ⟨lw_p9, List.forall_mem_cons.mpr ⟨lw_p10, List.forall_mem_cons.mpr ⟨lw_p11, List.forall_mem_cons.mpr ⟨lw_p12, List.forall_mem_cons.mpr ⟨lw_p13, List.forall_mem_cons.mpr ⟨lw_p14, List.forall_mem_cons.mpr ⟨lw_p15, fun _ h => absurd h List.not_mem_nil⟩⟩⟩⟩⟩⟩⟩⟩⟩⟩⟩⟩⟩⟩⟩⟩
theorem lw_p16 : lw_okq (⟨"DiagramStore$Sifting", "fullest", "(I)I"⟩, 1) := ⟨⟨by decide +kernel, by decide +kernel⟩, List.mem_of_getElem? (i := 94) (by decide +kernel), List.mem_of_getElem? (i := 480) (by decide +kernel), List.mem_of_getElem? (i := 481) (by decide +kernel)⟩
theorem lw_p17 : lw_okq (⟨"DiagramStore$Sifting", "sift", "(I)V"⟩, 1) := ⟨⟨by decide +kernel, by decide +kernel⟩, List.mem_of_getElem? (i := 94) (by decide +kernel), List.mem_of_getElem? (i := 488) (by decide +kernel), List.mem_of_getElem? (i := 489) (by decide +kernel)⟩
theorem lw_p18 : lw_okq (⟨"DiagramStore$Nodes", "detach", "(II)I"⟩, 11) := ⟨⟨by decide +kernel, by decide +kernel⟩, List.mem_of_getElem? (i := 27) (by decide +kernel), List.mem_of_getElem? (i := 502) (by decide +kernel), List.mem_of_getElem? (i := 503) (by decide +kernel)⟩
theorem lw_p19 : lw_okq (⟨"DiagramStore$Nodes", "rewrite", "(III)V"⟩, 11) := ⟨⟨by decide +kernel, by decide +kernel⟩, List.mem_of_getElem? (i := 27) (by decide +kernel), List.mem_of_getElem? (i := 506) (by decide +kernel), List.mem_of_getElem? (i := 507) (by decide +kernel)⟩
theorem lw_p20 : lw_okq (⟨"DiagramStore$Nodes", "release", "(I)V"⟩, 11) := ⟨⟨by decide +kernel, by decide +kernel⟩, List.mem_of_getElem? (i := 27) (by decide +kernel), List.mem_of_getElem? (i := 513) (by decide +kernel), List.mem_of_getElem? (i := 514) (by decide +kernel)⟩
theorem lw_p21 : lw_okq (⟨"DiagramStore$Nodes", "unlink", "(I)V"⟩, 11) := ⟨⟨by decide +kernel, by decide +kernel⟩, List.mem_of_getElem? (i := 27) (by decide +kernel), List.mem_of_getElem? (i := 517) (by decide +kernel), List.mem_of_getElem? (i := 518) (by decide +kernel)⟩
theorem lw_p22 : lw_okq (⟨"DiagramStore", "slotsNotFalse", "()I"⟩, 4) := ⟨⟨by decide +kernel, by decide +kernel⟩, List.mem_of_getElem? (i := 16) (by decide +kernel), List.mem_of_getElem? (i := 525) (by decide +kernel), List.mem_of_getElem? (i := 526) (by decide +kernel)⟩
theorem lw_p23 : lw_okq (⟨"DiagramStoreModel", "out", "(II)Z"⟩, 4) := ⟨⟨by decide +kernel, by decide +kernel⟩, List.mem_of_getElem? (i := 529) (by decide +kernel), List.mem_of_getElem? (i := 558) (by decide +kernel), List.mem_of_getElem? (i := 559) (by decide +kernel)⟩
theorem lw_p24 : lw_okq (⟨"DiagramStoreModel", "fail", "(I)Z"⟩, 4) := ⟨⟨by decide +kernel, by decide +kernel⟩, List.mem_of_getElem? (i := 529) (by decide +kernel), List.mem_of_getElem? (i := 570) (by decide +kernel), List.mem_of_getElem? (i := 571) (by decide +kernel)⟩
theorem lw_p25 : lw_okq (⟨"DiagramStoreModel", "at", "(II)Z"⟩, 4) := ⟨⟨by decide +kernel, by decide +kernel⟩, List.mem_of_getElem? (i := 529) (by decide +kernel), List.mem_of_getElem? (i := 574) (by decide +kernel), List.mem_of_getElem? (i := 575) (by decide +kernel)⟩
theorem lw_p26 : lw_okq (⟨"DiagramStoreModel", "keep", "(I)Z"⟩, 4) := ⟨⟨by decide +kernel, by decide +kernel⟩, List.mem_of_getElem? (i := 529) (by decide +kernel), List.mem_of_getElem? (i := 578) (by decide +kernel), List.mem_of_getElem? (i := 579) (by decide +kernel)⟩
theorem lw_p27 : lw_okq (⟨"DiagramStoreModel", "hangs", "(I)I"⟩, 4) := ⟨⟨by decide +kernel, by decide +kernel⟩, List.mem_of_getElem? (i := 529) (by decide +kernel), List.mem_of_getElem? (i := 606) (by decide +kernel), List.mem_of_getElem? (i := 607) (by decide +kernel)⟩
def lw_privs_2 : List (MethodName × Nat) := [(⟨"DiagramStore$Sifting", "fullest", "(I)I"⟩, 1), (⟨"DiagramStore$Sifting", "sift", "(I)V"⟩, 1), (⟨"DiagramStore$Nodes", "detach", "(II)I"⟩, 11), (⟨"DiagramStore$Nodes", "rewrite", "(III)V"⟩, 11), (⟨"DiagramStore$Nodes", "release", "(I)V"⟩, 11), (⟨"DiagramStore$Nodes", "unlink", "(I)V"⟩, 11), (⟨"DiagramStore", "slotsNotFalse", "()I"⟩, 4), (⟨"DiagramStoreModel", "out", "(II)Z"⟩, 4), (⟨"DiagramStoreModel", "fail", "(I)Z"⟩, 4), (⟨"DiagramStoreModel", "at", "(II)Z"⟩, 4), (⟨"DiagramStoreModel", "keep", "(I)Z"⟩, 4), (⟨"DiagramStoreModel", "hangs", "(I)I"⟩, 4)]
theorem lw_r2 : ∀ q ∈ lw_privs_2, lw_okq q := List.forall_mem_cons.mpr ⟨lw_p16, List.forall_mem_cons.mpr ⟨lw_p17, List.forall_mem_cons.mpr ⟨lw_p18, List.forall_mem_cons.mpr ⟨lw_p19, List.forall_mem_cons.mpr ⟨lw_p20, List.forall_mem_cons.mpr ⟨lw_p21, List.forall_mem_cons.mpr ⟨lw_p22, List.forall_mem_cons.mpr ⟨lw_p23, List.forall_mem_cons.mpr ⟨lw_p24, List.forall_mem_cons.mpr ⟨lw_p25, List.forall_mem_cons.mpr ⟨lw_p26, List.forall_mem_cons.mpr ⟨lw_p27, fun _ h => absurd h List.not_mem_nil⟩⟩⟩⟩⟩⟩⟩⟩⟩⟩⟩⟩
def lw_privs : List (MethodName × Nat) := lw_privs_1 ++ (lw_privs_2)
def lw_tbl : List Cond := k2_sels lw_privs ++ tables_1
theorem lw_privs_ok : ∀ q ∈ lw_privs, lw_okq q := by
  show ∀ q ∈ lw_privs_1 ++ (lw_privs_2), lw_okq q
  exact List.forall_mem_append.mpr ⟨lw_r1, lw_r2⟩
end
section
/-! NAMES, written by program out of the task: classes, fields, methods, and the words of the tables. -/
def R_S : String := "DiagramStore"
def R_N : String := "DiagramStore$Nodes"
def R_A : String := "DiagramStore$Algebra"
def R_M : String := "DiagramStore$Memo"
def R_F : String := "DiagramStore$Sifting"
def R_R : String := "DiagramStoreModel"
def R_L : String := "DiagramStoreLaw"
def R_JA : String := "java/util/Arrays"
def R_JM : String := "java/lang/Math"
def R_JS : String := "java/lang/System"
def T_S : u_T := fun k => match k with
  | 0 => ("DiagramStore", "slots", "[I", true)
  | 1 => ("DiagramStore", "nodes", "LDiagramStore$Nodes;", true)
  | 2 => ("DiagramStore", "algebra", "LDiagramStore$Algebra;", true)
  | _ => ("DiagramStore", "sifting", "LDiagramStore$Sifting;", true)
def ty_S : Nat → FieldType := fun k => match k with
  | 0 => .array .int
  | 1 => .object "DiagramStore$Nodes"
  | 2 => .object "DiagramStore$Algebra"
  | _ => .object "DiagramStore$Sifting"
theorem nm_S : ∀ a, a < 4 → ∀ b, b < 4 → a ≠ b → (T_S a).2.1 ≠ (T_S b).2.1 := by decide +kernel
theorem tk_S : ∀ k, k < 4 → parseFieldDescriptor (T_S k).2.2.1 = some (ty_S k) := by decide +kernel
def T_N : u_T := fun k => match k with
  | 0 => ("DiagramStore$Nodes", "rows", "[I", false)
  | 1 => ("DiagramStore$Nodes", "heads", "[I", true)
  | 2 => ("DiagramStore$Nodes", "held", "[I", true)
  | 3 => ("DiagramStore$Nodes", "levels", "[I", true)
  | 4 => ("DiagramStore$Nodes", "variables", "[I", true)
  | 5 => ("DiagramStore$Nodes", "room", "I", false)
  | 6 => ("DiagramStore$Nodes", "used", "I", false)
  | 7 => ("DiagramStore$Nodes", "free", "I", false)
  | 8 => ("DiagramStore$Nodes", "size", "I", false)
  | 9 => ("DiagramStore$Nodes", "limit", "I", false)
  | _ => ("DiagramStore$Nodes", "rewritten", "I", false)
def ty_N : Nat → FieldType := fun k => match k with
  | 0 => .array .int
  | 1 => .array .int
  | 2 => .array .int
  | 3 => .array .int
  | 4 => .array .int
  | 5 => .int
  | 6 => .int
  | 7 => .int
  | 8 => .int
  | 9 => .int
  | _ => .int
theorem nm_N : ∀ a, a < 11 → ∀ b, b < 11 → a ≠ b → (T_N a).2.1 ≠ (T_N b).2.1 := by decide +kernel
theorem tk_N : ∀ k, k < 11 → parseFieldDescriptor (T_N k).2.2.1 = some (ty_N k) := by decide +kernel
def T_A : u_T := fun k => match k with
  | 0 => ("DiagramStore$Algebra", "nodes", "LDiagramStore$Nodes;", true)
  | _ => ("DiagramStore$Algebra", "memo", "LDiagramStore$Memo;", true)
def ty_A : Nat → FieldType := fun k => match k with
  | 0 => .object "DiagramStore$Nodes"
  | _ => .object "DiagramStore$Memo"
theorem nm_A : ∀ a, a < 2 → ∀ b, b < 2 → a ≠ b → (T_A a).2.1 ≠ (T_A b).2.1 := by decide +kernel
theorem tk_A : ∀ k, k < 2 → parseFieldDescriptor (T_A k).2.2.1 = some (ty_A k) := by decide +kernel
def T_M : u_T := fun k => match k with
  | 0 => ("DiagramStore$Memo", "rows", "[I", true)
  | _ => ("DiagramStore$Memo", "age", "I", false)
def ty_M : Nat → FieldType := fun k => match k with
  | 0 => .array .int
  | _ => .int
theorem nm_M : ∀ a, a < 2 → ∀ b, b < 2 → a ≠ b → (T_M a).2.1 ≠ (T_M b).2.1 := by decide +kernel
theorem tk_M : ∀ k, k < 2 → parseFieldDescriptor (T_M k).2.2.1 = some (ty_M k) := by decide +kernel
def T_F : u_T := fun k => match k with
  | _ => ("DiagramStore$Sifting", "nodes", "LDiagramStore$Nodes;", true)
def ty_F : Nat → FieldType := fun k => match k with
  | _ => .object "DiagramStore$Nodes"
theorem nm_F : ∀ a, a < 1 → ∀ b, b < 1 → a ≠ b → (T_F a).2.1 ≠ (T_F b).2.1 := by decide +kernel
theorem tk_F : ∀ k, k < 1 → parseFieldDescriptor (T_F k).2.2.1 = some (ty_F k) := by decide +kernel
def T_R : u_T := fun k => match k with
  | 0 => ("DiagramStoreModel", "failed", "I", false)
  | 1 => ("DiagramStoreModel", "rows", "[Z", true)
  | 2 => ("DiagramStoreModel", "made", "[Z", true)
  | _ => ("DiagramStoreModel", "both", "[Z", true)
def ty_R : Nat → FieldType := fun k => match k with
  | 0 => .int
  | 1 => .array .boolean
  | 2 => .array .boolean
  | _ => .array .boolean
theorem nm_R : ∀ a, a < 4 → ∀ b, b < 4 → a ≠ b → (T_R a).2.1 ≠ (T_R b).2.1 := by decide +kernel
theorem tk_R : ∀ k, k < 4 → parseFieldDescriptor (T_R k).2.2.1 = some (ty_R k) := by decide +kernel
abbrev b_S_init : ByteArray := prog_1_method_1_code
def y_S_init : MethodName := ⟨R_S, "<init>", "()V"⟩
abbrev b_JA_fill : ByteArray := prog_17_method_103_code
def y_JA_fill : MethodName := ⟨R_JA, "fill", "([II)V"⟩
abbrev b_N_init : ByteArray := prog_4_method_1_code
def y_N_init : MethodName := ⟨R_N, "<init>", "()V"⟩
abbrev b_A_init : ByteArray := prog_2_method_1_code
def y_A_init : MethodName := ⟨R_A, "<init>", "(LDiagramStore$Nodes;)V"⟩
abbrev b_M_init : ByteArray := prog_3_method_1_code
def y_M_init : MethodName := ⟨R_M, "<init>", "()V"⟩
abbrev b_F_init : ByteArray := prog_5_method_1_code
def y_F_init : MethodName := ⟨R_F, "<init>", "(LDiagramStore$Nodes;)V"⟩
abbrev b_S_wrong : ByteArray := prog_1_method_13_code
def y_S_wrong : MethodName := ⟨R_S, "wrong", "()I"⟩
abbrev b_N_faults : ByteArray := prog_4_method_30_code
def y_N_faults : MethodName := ⟨R_N, "faults", "()I"⟩
abbrev b_N_isMisplaced : ByteArray := prog_4_method_31_code
def y_N_isMisplaced : MethodName := ⟨R_N, "isMisplaced", "(II)Z"⟩
abbrev b_N_get : ByteArray := prog_4_method_2_code
def y_N_get : MethodName := ⟨R_N, "get", "(II)I"⟩
abbrev b_N_askedBy : ByteArray := prog_4_method_6_code
def y_N_askedBy : MethodName := ⟨R_N, "askedBy", "(I)I"⟩
abbrev b_N_levelOf : ByteArray := prog_4_method_9_code
def y_N_levelOf : MethodName := ⟨R_N, "levelOf", "(I)I"⟩
abbrev b_JM_min : ByteArray := prog_11_method_69_code
def y_JM_min : MethodName := ⟨R_JM, "min", "(II)I"⟩
abbrev b_N_chainFor : ByteArray := prog_4_method_17_code
def y_N_chainFor : MethodName := ⟨R_N, "chainFor", "(III)I"⟩
abbrev b_N_isThereTwice : ByteArray := prog_4_method_32_code
def y_N_isThereTwice : MethodName := ⟨R_N, "isThereTwice", "(I)Z"⟩
abbrev b_S_constant : ByteArray := prog_1_method_2_code
def y_S_constant : MethodName := ⟨R_S, "constant", "(IZ)V"⟩
abbrev b_S_requireSlot : ByteArray := prog_1_method_16_code
def y_S_requireSlot : MethodName := ⟨R_S, "requireSlot", "(I)V"⟩
abbrev b_S_requireBelow : ByteArray := prog_1_method_17_code
def y_S_requireBelow : MethodName := ⟨R_S, "requireBelow", "(II)V"⟩
abbrev b_S_put : ByteArray := prog_1_method_15_code
def y_S_put : MethodName := ⟨R_S, "put", "(II)Z"⟩
abbrev b_N_refer : ByteArray := prog_4_method_15_code
def y_N_refer : MethodName := ⟨R_N, "refer", "(II)V"⟩
abbrev b_N_set : ByteArray := prog_4_method_3_code
def y_N_set : MethodName := ⟨R_N, "set", "(III)V"⟩
abbrev b_S_variable : ByteArray := prog_1_method_3_code
def y_S_variable : MethodName := ⟨R_S, "variable", "(II)V"⟩
abbrev b_A_truthOf : ByteArray := prog_2_method_3_code
def y_A_truthOf : MethodName := ⟨R_A, "truthOf", "(I)I"⟩
abbrev b_A_begin : ByteArray := prog_2_method_2_code
def y_A_begin : MethodName := ⟨R_A, "begin", "(I)V"⟩
abbrev b_N_makeRoom : ByteArray := prog_4_method_22_code
def y_N_makeRoom : MethodName := ⟨R_N, "makeRoom", "(I)V"⟩
abbrev b_N_collect : ByteArray := prog_4_method_24_code
def y_N_collect : MethodName := ⟨R_N, "collect", "()V"⟩
abbrev b_N_variableAt : ByteArray := prog_4_method_10_code
def y_N_variableAt : MethodName := ⟨R_N, "variableAt", "(I)I"⟩
abbrev b_N_needed : ByteArray := prog_4_method_25_code
def y_N_needed : MethodName := ⟨R_N, "needed", "(I)I"⟩
abbrev b_N_giveBack : ByteArray := prog_4_method_19_code
def y_N_giveBack : MethodName := ⟨R_N, "giveBack", "(I)V"⟩
abbrev b_JM_max : ByteArray := prog_11_method_65_code
def y_JM_max : MethodName := ⟨R_JM, "max", "(II)I"⟩
abbrev b_N_widen : ByteArray := prog_4_method_23_code
def y_N_widen : MethodName := ⟨R_N, "widen", "(I)V"⟩
abbrev b_JA_copyOf : ByteArray := prog_17_method_123_code
def y_JA_copyOf : MethodName := ⟨R_JA, "copyOf", "([II)[I"⟩
abbrev b_M_forget : ByteArray := prog_3_method_2_code
def y_M_forget : MethodName := ⟨R_M, "forget", "()V"⟩
abbrev b_N_make : ByteArray := prog_4_method_16_code
def y_N_make : MethodName := ⟨R_N, "make", "(III)I"⟩
abbrev b_N_freshRow : ByteArray := prog_4_method_18_code
def y_N_freshRow : MethodName := ⟨R_N, "freshRow", "()I"⟩
abbrev b_N_link : ByteArray := prog_4_method_20_code
def y_N_link : MethodName := ⟨R_N, "link", "(IIII)V"⟩
abbrev b_S_choose : ByteArray := prog_1_method_4_code
def y_S_choose : MethodName := ⟨R_S, "choose", "(IIII)Z"⟩
abbrev b_A_chosen : ByteArray := prog_2_method_4_code
def y_A_chosen : MethodName := ⟨R_A, "chosen", "(III)I"⟩
abbrev b_A_pick : ByteArray := prog_2_method_9_code
def y_A_pick : MethodName := ⟨R_A, "pick", "(IIII)I"⟩
abbrev b_M_answerFor : ByteArray := prog_3_method_4_code
def y_M_answerFor : MethodName := ⟨R_M, "answerFor", "(III)I"⟩
abbrev b_M_placeFor : ByteArray := prog_3_method_3_code
def y_M_placeFor : MethodName := ⟨R_M, "placeFor", "(III)I"⟩
abbrev b_N_firstAsked : ByteArray := prog_4_method_12_code
def y_N_firstAsked : MethodName := ⟨R_N, "firstAsked", "(III)I"⟩
abbrev b_N_lowFor : ByteArray := prog_4_method_7_code
def y_N_lowFor : MethodName := ⟨R_N, "lowFor", "(II)I"⟩
abbrev b_N_highFor : ByteArray := prog_4_method_8_code
def y_N_highFor : MethodName := ⟨R_N, "highFor", "(II)I"⟩
abbrev b_M_keep : ByteArray := prog_3_method_5_code
def y_M_keep : MethodName := ⟨R_M, "keep", "(IIII)V"⟩
abbrev b_S_join : ByteArray := prog_1_method_5_code
def y_S_join : MethodName := ⟨R_S, "join", "(IIII)Z"⟩
abbrev b_A_joined : ByteArray := prog_2_method_5_code
def y_A_joined : MethodName := ⟨R_A, "joined", "(III)I"⟩
abbrev b_S_some : ByteArray := prog_1_method_6_code
def y_S_some : MethodName := ⟨R_S, "some", "(IIII)Z"⟩
abbrev b_A_bothForSome : ByteArray := prog_2_method_6_code
def y_A_bothForSome : MethodName := ⟨R_A, "bothForSome", "(III)I"⟩
abbrev b_A_freed : ByteArray := prog_2_method_10_code
def y_A_freed : MethodName := ⟨R_A, "freed", "(III)I"⟩
abbrev b_S_turn : ByteArray := prog_1_method_7_code
def y_S_turn : MethodName := ⟨R_S, "turn", "(II)Z"⟩
abbrev b_A_turned : ByteArray := prog_2_method_7_code
def y_A_turned : MethodName := ⟨R_A, "turned", "(I)I"⟩
abbrev b_A_hanging : ByteArray := prog_2_method_11_code
def y_A_hanging : MethodName := ⟨R_A, "hanging", "(II)I"⟩
abbrev b_A_turnedFrom : ByteArray := prog_2_method_12_code
def y_A_turnedFrom : MethodName := ⟨R_A, "turnedFrom", "(IIIII)I"⟩
abbrev b_N_followed : ByteArray := prog_4_method_14_code
def y_N_followed : MethodName := ⟨R_N, "followed", "(III)I"⟩
abbrev b_S_value : ByteArray := prog_1_method_8_code
def y_S_value : MethodName := ⟨R_S, "value", "(II)Z"⟩
abbrev b_N_truthFor : ByteArray := prog_4_method_13_code
def y_N_truthFor : MethodName := ⟨R_N, "truthFor", "(II)Z"⟩
abbrev b_S_same : ByteArray := prog_1_method_9_code
def y_S_same : MethodName := ⟨R_S, "same", "(II)Z"⟩
abbrev b_S_count : ByteArray := prog_1_method_10_code
def y_S_count : MethodName := ⟨R_S, "count", "(I)I"⟩
abbrev b_A_hangsOn : ByteArray := prog_2_method_8_code
def y_A_hangsOn : MethodName := ⟨R_A, "hangsOn", "(I)I"⟩
abbrev b_S_support : ByteArray := prog_1_method_11_code
def y_S_support : MethodName := ⟨R_S, "support", "(I)I"⟩
abbrev b_S_tidy : ByteArray := prog_1_method_12_code
def y_S_tidy : MethodName := ⟨R_S, "tidy", "(I)I"⟩
abbrev b_F_seekLess : ByteArray := prog_5_method_2_code
def y_F_seekLess : MethodName := ⟨R_F, "seekLess", "()V"⟩
abbrev b_N_rewritten : ByteArray := prog_4_method_5_code
def y_N_rewritten : MethodName := ⟨R_N, "rewritten", "()I"⟩
abbrev b_F_fullest : ByteArray := prog_5_method_3_code
def y_F_fullest : MethodName := ⟨R_F, "fullest", "(I)I"⟩
abbrev b_N_heldFor : ByteArray := prog_4_method_11_code
def y_N_heldFor : MethodName := ⟨R_N, "heldFor", "(I)I"⟩
abbrev b_F_sift : ByteArray := prog_5_method_4_code
def y_F_sift : MethodName := ⟨R_F, "sift", "(I)V"⟩
abbrev b_N_size : ByteArray := prog_4_method_4_code
def y_N_size : MethodName := ⟨R_N, "size", "()I"⟩
abbrev b_N_swap : ByteArray := prog_4_method_26_code
def y_N_swap : MethodName := ⟨R_N, "swap", "(I)V"⟩
abbrev b_N_detach : ByteArray := prog_4_method_27_code
def y_N_detach : MethodName := ⟨R_N, "detach", "(II)I"⟩
abbrev b_N_rewrite : ByteArray := prog_4_method_28_code
def y_N_rewrite : MethodName := ⟨R_N, "rewrite", "(III)V"⟩
abbrev b_N_release : ByteArray := prog_4_method_29_code
def y_N_release : MethodName := ⟨R_N, "release", "(I)V"⟩
abbrev b_N_unlink : ByteArray := prog_4_method_21_code
def y_N_unlink : MethodName := ⟨R_N, "unlink", "(I)V"⟩
abbrev b_F_turnRound : ByteArray := prog_5_method_5_code
def y_F_turnRound : MethodName := ⟨R_F, "turnRound", "()V"⟩
abbrev b_S_slotsNotFalse : ByteArray := prog_1_method_14_code
def y_S_slotsNotFalse : MethodName := ⟨R_S, "slotsNotFalse", "()I"⟩
abbrev b_R_init : ByteArray := prog_7_method_1_code
def y_R_init : MethodName := ⟨R_R, "<init>", "()V"⟩
abbrev b_R_thrown : ByteArray := prog_7_method_2_code
def y_R_thrown : MethodName := ⟨R_R, "thrown", "()I"⟩
abbrev b_R_constant : ByteArray := prog_7_method_5_code
def y_R_constant : MethodName := ⟨R_R, "constant", "(IZ)V"⟩
abbrev b_R_out : ByteArray := prog_7_method_4_code
def y_R_out : MethodName := ⟨R_R, "out", "(II)Z"⟩
abbrev b_R_variable : ByteArray := prog_7_method_6_code
def y_R_variable : MethodName := ⟨R_R, "variable", "(II)V"⟩
abbrev b_R_choose : ByteArray := prog_7_method_9_code
def y_R_choose : MethodName := ⟨R_R, "choose", "(IIII)Z"⟩
abbrev b_R_fail : ByteArray := prog_7_method_3_code
def y_R_fail : MethodName := ⟨R_R, "fail", "(I)Z"⟩
abbrev b_R_at : ByteArray := prog_7_method_8_code
def y_R_at : MethodName := ⟨R_R, "at", "(II)Z"⟩
abbrev b_R_keep : ByteArray := prog_7_method_7_code
def y_R_keep : MethodName := ⟨R_R, "keep", "(I)Z"⟩
abbrev b_R_join : ByteArray := prog_7_method_10_code
def y_R_join : MethodName := ⟨R_R, "join", "(IIII)Z"⟩
abbrev b_R_some : ByteArray := prog_7_method_11_code
def y_R_some : MethodName := ⟨R_R, "some", "(IIII)Z"⟩
abbrev b_R_turn : ByteArray := prog_7_method_12_code
def y_R_turn : MethodName := ⟨R_R, "turn", "(II)Z"⟩
abbrev b_R_value : ByteArray := prog_7_method_13_code
def y_R_value : MethodName := ⟨R_R, "value", "(II)Z"⟩
abbrev b_R_same : ByteArray := prog_7_method_14_code
def y_R_same : MethodName := ⟨R_R, "same", "(II)Z"⟩
abbrev b_R_count : ByteArray := prog_7_method_16_code
def y_R_count : MethodName := ⟨R_R, "count", "(I)I"⟩
abbrev b_R_hangs : ByteArray := prog_7_method_15_code
def y_R_hangs : MethodName := ⟨R_R, "hangs", "(I)I"⟩
abbrev b_R_support : ByteArray := prog_7_method_17_code
def y_R_support : MethodName := ⟨R_R, "support", "(I)I"⟩
abbrev b_R_tidy : ByteArray := prog_7_method_18_code
def y_R_tidy : MethodName := ⟨R_R, "tidy", "(I)I"⟩
abbrev b_R_wrong : ByteArray := prog_7_method_19_code
def y_R_wrong : MethodName := ⟨R_R, "wrong", "()I"⟩
def W0 : List Cond := lw_tbl.filter goodWord
theorem W0_in {w : Cond} (h : w ∈ lw_tbl) (g : goodWord w = true) : w ∈ W0 := List.mem_filter.mpr ⟨h, g⟩
theorem W0_tbl : ∀ w ∈ W0, w ∈ lw_tbl := fun _ h => (List.mem_filter.mp h).1
theorem W0_good {ws : List Cond} (h : ∀ w ∈ ws, w ∈ W0) : GoodIn W0 ws := fun w hw => ⟨h w hw, good_of_word (List.mem_filter.mp (h w hw)).2⟩
theorem gV {own : String} {idx : Nat} {C : String} {y : MethodName} {cy : Cond} (h1 : Cond.methodLink own idx y ∈ W0) (h2 : Cond.instanceMethod y ∈ W0) (h3 : Cond.selects C y y ∈ W0) (h4 : Cond.initialized C ∈ W0) (h5 : cy ∈ W0) : GoodIn W0 (wsV own idx C y (cy :: W0)) := W0_good (fun w hw => by
  unfold wsV at hw
  simp only [List.mem_append, List.mem_cons, List.not_mem_nil, or_false] at hw
  rcases hw with (rfl | rfl | rfl | rfl) | rfl | hw
  · exact h1
  · exact h2
  · exact h3
  · exact h4
  · exact h5
  · exact hw)
theorem gS {own : String} {idx : Nat} {y : MethodName} {cy : Cond} (h1 : Cond.methodLink own idx y ∈ W0) (h2 : Cond.static y ∈ W0) (h4 : Cond.initialized y.cls ∈ W0) (h5 : cy ∈ W0) : GoodIn W0 (va_wsS own idx y (cy :: W0)) := W0_good (fun w hw => by
  unfold va_wsS at hw
  simp only [List.mem_append, List.mem_cons, List.not_mem_nil, or_false] at hw
  rcases hw with (rfl | rfl | rfl) | rfl | hw
  · exact h1
  · exact h2
  · exact h4
  · exact h5
  · exact hw)
theorem gC {cy : Cond} (h5 : cy ∈ W0) : GoodIn W0 (cy :: W0) := W0_good (fun w hw => by
  rcases List.mem_cons.mp hw with rfl | hw
  · exact h5
  · exact hw)
end
section
/-! the words, by their places in the tables -/
theorem ksl_N_isMisplaced : Cond.selects R_N y_N_isMisplaced y_N_isMisplaced ∈ W0 := W0_in (List.mem_of_getElem? (i := 0) (by decide +kernel)) (by decide +kernel)
theorem ksl_N_get : Cond.selects R_N y_N_get y_N_get ∈ W0 := W0_in (List.mem_of_getElem? (i := 1) (by decide +kernel)) (by decide +kernel)
theorem ksl_N_isThereTwice : Cond.selects R_N y_N_isThereTwice y_N_isThereTwice ∈ W0 := W0_in (List.mem_of_getElem? (i := 2) (by decide +kernel)) (by decide +kernel)
theorem ksl_S_put : Cond.selects R_S y_S_put y_S_put ∈ W0 := W0_in (List.mem_of_getElem? (i := 4) (by decide +kernel)) (by decide +kernel)
theorem ksl_N_set : Cond.selects R_N y_N_set y_N_set ∈ W0 := W0_in (List.mem_of_getElem? (i := 5) (by decide +kernel)) (by decide +kernel)
theorem ksl_A_begin : Cond.selects R_A y_A_begin y_A_begin ∈ W0 := W0_in (List.mem_of_getElem? (i := 6) (by decide +kernel)) (by decide +kernel)
theorem ksl_N_needed : Cond.selects R_N y_N_needed y_N_needed ∈ W0 := W0_in (List.mem_of_getElem? (i := 7) (by decide +kernel)) (by decide +kernel)
theorem ksl_N_giveBack : Cond.selects R_N y_N_giveBack y_N_giveBack ∈ W0 := W0_in (List.mem_of_getElem? (i := 8) (by decide +kernel)) (by decide +kernel)
theorem ksl_N_widen : Cond.selects R_N y_N_widen y_N_widen ∈ W0 := W0_in (List.mem_of_getElem? (i := 9) (by decide +kernel)) (by decide +kernel)
theorem ksl_N_freshRow : Cond.selects R_N y_N_freshRow y_N_freshRow ∈ W0 := W0_in (List.mem_of_getElem? (i := 10) (by decide +kernel)) (by decide +kernel)
theorem ksl_N_link : Cond.selects R_N y_N_link y_N_link ∈ W0 := W0_in (List.mem_of_getElem? (i := 11) (by decide +kernel)) (by decide +kernel)
theorem ksl_A_pick : Cond.selects R_A y_A_pick y_A_pick ∈ W0 := W0_in (List.mem_of_getElem? (i := 12) (by decide +kernel)) (by decide +kernel)
theorem ksl_A_freed : Cond.selects R_A y_A_freed y_A_freed ∈ W0 := W0_in (List.mem_of_getElem? (i := 13) (by decide +kernel)) (by decide +kernel)
theorem ksl_A_hanging : Cond.selects R_A y_A_hanging y_A_hanging ∈ W0 := W0_in (List.mem_of_getElem? (i := 14) (by decide +kernel)) (by decide +kernel)
theorem ksl_A_turnedFrom : Cond.selects R_A y_A_turnedFrom y_A_turnedFrom ∈ W0 := W0_in (List.mem_of_getElem? (i := 15) (by decide +kernel)) (by decide +kernel)
theorem ksl_F_fullest : Cond.selects R_F y_F_fullest y_F_fullest ∈ W0 := W0_in (List.mem_of_getElem? (i := 16) (by decide +kernel)) (by decide +kernel)
theorem ksl_F_sift : Cond.selects R_F y_F_sift y_F_sift ∈ W0 := W0_in (List.mem_of_getElem? (i := 17) (by decide +kernel)) (by decide +kernel)
theorem ksl_N_detach : Cond.selects R_N y_N_detach y_N_detach ∈ W0 := W0_in (List.mem_of_getElem? (i := 18) (by decide +kernel)) (by decide +kernel)
theorem ksl_N_rewrite : Cond.selects R_N y_N_rewrite y_N_rewrite ∈ W0 := W0_in (List.mem_of_getElem? (i := 19) (by decide +kernel)) (by decide +kernel)
theorem ksl_N_release : Cond.selects R_N y_N_release y_N_release ∈ W0 := W0_in (List.mem_of_getElem? (i := 20) (by decide +kernel)) (by decide +kernel)
theorem ksl_N_unlink : Cond.selects R_N y_N_unlink y_N_unlink ∈ W0 := W0_in (List.mem_of_getElem? (i := 21) (by decide +kernel)) (by decide +kernel)
theorem ksl_S_slotsNotFalse : Cond.selects R_S y_S_slotsNotFalse y_S_slotsNotFalse ∈ W0 := W0_in (List.mem_of_getElem? (i := 22) (by decide +kernel)) (by decide +kernel)
theorem ksl_R_out : Cond.selects R_R y_R_out y_R_out ∈ W0 := W0_in (List.mem_of_getElem? (i := 23) (by decide +kernel)) (by decide +kernel)
theorem ksl_R_fail : Cond.selects R_R y_R_fail y_R_fail ∈ W0 := W0_in (List.mem_of_getElem? (i := 24) (by decide +kernel)) (by decide +kernel)
theorem ksl_R_at : Cond.selects R_R y_R_at y_R_at ∈ W0 := W0_in (List.mem_of_getElem? (i := 25) (by decide +kernel)) (by decide +kernel)
theorem ksl_R_keep : Cond.selects R_R y_R_keep y_R_keep ∈ W0 := W0_in (List.mem_of_getElem? (i := 26) (by decide +kernel)) (by decide +kernel)
theorem ksl_R_hangs : Cond.selects R_R y_R_hangs y_R_hangs ∈ W0 := W0_in (List.mem_of_getElem? (i := 27) (by decide +kernel)) (by decide +kernel)
theorem kin_L : Cond.initialized R_L ∈ W0 := W0_in (List.mem_of_getElem? (i := 28) (by decide +kernel)) (by decide +kernel)
theorem kin_S : Cond.initialized R_S ∈ W0 := W0_in (List.mem_of_getElem? (i := 29) (by decide +kernel)) (by decide +kernel)
theorem kin_JA : Cond.initialized R_JA ∈ W0 := W0_in (List.mem_of_getElem? (i := 30) (by decide +kernel)) (by decide +kernel)
theorem kin_N : Cond.initialized R_N ∈ W0 := W0_in (List.mem_of_getElem? (i := 31) (by decide +kernel)) (by decide +kernel)
theorem kin_A : Cond.initialized R_A ∈ W0 := W0_in (List.mem_of_getElem? (i := 32) (by decide +kernel)) (by decide +kernel)
theorem kin_M : Cond.initialized R_M ∈ W0 := W0_in (List.mem_of_getElem? (i := 33) (by decide +kernel)) (by decide +kernel)
theorem kin_F : Cond.initialized R_F ∈ W0 := W0_in (List.mem_of_getElem? (i := 34) (by decide +kernel)) (by decide +kernel)
theorem kin_R : Cond.initialized R_R ∈ W0 := W0_in (List.mem_of_getElem? (i := 35) (by decide +kernel)) (by decide +kernel)
theorem kin_JM : Cond.initialized R_JM ∈ W0 := W0_in (List.mem_of_getElem? (i := 40) (by decide +kernel)) (by decide +kernel)
theorem kin_JS : Cond.initialized R_JS ∈ W0 := W0_in (List.mem_of_getElem? (i := 41) (by decide +kernel)) (by decide +kernel)
theorem kcl_L_8 : Cond.classLink R_L 8 R_S ∈ W0 := W0_in (List.mem_of_getElem? (i := 43) (by decide +kernel)) (by decide +kernel)
theorem kis_S : Cond.instantiable R_S 4 ∈ W0 := W0_in (List.mem_of_getElem? (i := 44) (by decide +kernel)) (by decide +kernel)
theorem kml_L_51 : Cond.methodLink R_L 51 y_S_init ∈ W0 := W0_in (List.mem_of_getElem? (i := 45) (by decide +kernel)) (by decide +kernel)
theorem kim_S_init : Cond.instanceMethod y_S_init ∈ W0 := W0_in (List.mem_of_getElem? (i := 46) (by decide +kernel)) (by decide +kernel)
theorem kcd_S_init : Cond.code y_S_init b_S_init 1 none ∈ W0 := W0_in (List.mem_of_getElem? (i := 47) (by decide +kernel)) (by decide +kernel)
theorem kml_S_3 : Cond.methodLink R_S 3 objectInit ∈ W0 := W0_in (List.mem_of_getElem? (i := 48) (by decide +kernel)) (by decide +kernel)
theorem kim_obj : Cond.instanceMethod objectInit ∈ W0 := W0_in (List.mem_of_getElem? (i := 49) (by decide +kernel)) (by decide +kernel)
theorem kcd_obj : Cond.code objectInit ⟨#[0xb1]⟩ 1 none ∈ W0 := W0_in (List.mem_of_getElem? (i := 50) (by decide +kernel)) (by decide +kernel)
theorem kml_S_13 : Cond.methodLink R_S 13 y_JA_fill ∈ W0 := W0_in (List.mem_of_getElem? (i := 51) (by decide +kernel)) (by decide +kernel)
theorem kst_JA_fill : Cond.static y_JA_fill ∈ W0 := W0_in (List.mem_of_getElem? (i := 52) (by decide +kernel)) (by decide +kernel)
theorem kcd_JA_fill : Cond.code y_JA_fill b_JA_fill 4 none ∈ W0 := W0_in (List.mem_of_getElem? (i := 53) (by decide +kernel)) (by decide +kernel)
theorem kcl_S_19 : Cond.classLink R_S 19 R_N ∈ W0 := W0_in (List.mem_of_getElem? (i := 54) (by decide +kernel)) (by decide +kernel)
theorem kis_N : Cond.instantiable R_N 11 ∈ W0 := W0_in (List.mem_of_getElem? (i := 55) (by decide +kernel)) (by decide +kernel)
theorem kml_S_21 : Cond.methodLink R_S 21 y_N_init ∈ W0 := W0_in (List.mem_of_getElem? (i := 56) (by decide +kernel)) (by decide +kernel)
theorem kim_N_init : Cond.instanceMethod y_N_init ∈ W0 := W0_in (List.mem_of_getElem? (i := 57) (by decide +kernel)) (by decide +kernel)
theorem kcd_N_init : Cond.code y_N_init b_N_init 2 none ∈ W0 := W0_in (List.mem_of_getElem? (i := 58) (by decide +kernel)) (by decide +kernel)
theorem kml_N_3 : Cond.methodLink R_N 3 objectInit ∈ W0 := W0_in (List.mem_of_getElem? (i := 59) (by decide +kernel)) (by decide +kernel)
theorem kfl_N_11 : Cond.fieldLink R_N 11 "DiagramStore$Nodes" "rows" "[I" ∈ W0 := W0_in (List.mem_of_getElem? (i := 60) (by decide +kernel)) (by decide +kernel)
theorem kfl_N_25 : Cond.fieldLink R_N 25 "DiagramStore$Nodes" "heads" "[I" ∈ W0 := W0_in (List.mem_of_getElem? (i := 61) (by decide +kernel)) (by decide +kernel)
theorem kfl_N_28 : Cond.fieldLink R_N 28 "DiagramStore$Nodes" "held" "[I" ∈ W0 := W0_in (List.mem_of_getElem? (i := 62) (by decide +kernel)) (by decide +kernel)
theorem kfl_N_31 : Cond.fieldLink R_N 31 "DiagramStore$Nodes" "levels" "[I" ∈ W0 := W0_in (List.mem_of_getElem? (i := 63) (by decide +kernel)) (by decide +kernel)
theorem kfl_N_34 : Cond.fieldLink R_N 34 "DiagramStore$Nodes" "variables" "[I" ∈ W0 := W0_in (List.mem_of_getElem? (i := 64) (by decide +kernel)) (by decide +kernel)
theorem kfl_N_15 : Cond.fieldLink R_N 15 "DiagramStore$Nodes" "room" "I" ∈ W0 := W0_in (List.mem_of_getElem? (i := 65) (by decide +kernel)) (by decide +kernel)
theorem kfl_N_19 : Cond.fieldLink R_N 19 "DiagramStore$Nodes" "used" "I" ∈ W0 := W0_in (List.mem_of_getElem? (i := 66) (by decide +kernel)) (by decide +kernel)
theorem kfl_N_22 : Cond.fieldLink R_N 22 "DiagramStore$Nodes" "free" "I" ∈ W0 := W0_in (List.mem_of_getElem? (i := 67) (by decide +kernel)) (by decide +kernel)
theorem kfl_N_40 : Cond.fieldLink R_N 40 "DiagramStore$Nodes" "size" "I" ∈ W0 := W0_in (List.mem_of_getElem? (i := 68) (by decide +kernel)) (by decide +kernel)
theorem kfl_N_37 : Cond.fieldLink R_N 37 "DiagramStore$Nodes" "limit" "I" ∈ W0 := W0_in (List.mem_of_getElem? (i := 69) (by decide +kernel)) (by decide +kernel)
theorem kfl_N_43 : Cond.fieldLink R_N 43 "DiagramStore$Nodes" "rewritten" "I" ∈ W0 := W0_in (List.mem_of_getElem? (i := 70) (by decide +kernel)) (by decide +kernel)
theorem kac_int : Cond.arrayClass .int ∈ W0 := W0_in (List.mem_of_getElem? (i := 94) (by decide +kernel)) (by decide +kernel)
theorem kcl_S_26 : Cond.classLink R_S 26 R_A ∈ W0 := W0_in (List.mem_of_getElem? (i := 95) (by decide +kernel)) (by decide +kernel)
theorem kis_A : Cond.instantiable R_A 2 ∈ W0 := W0_in (List.mem_of_getElem? (i := 96) (by decide +kernel)) (by decide +kernel)
theorem kml_S_28 : Cond.methodLink R_S 28 y_A_init ∈ W0 := W0_in (List.mem_of_getElem? (i := 97) (by decide +kernel)) (by decide +kernel)
theorem kim_A_init : Cond.instanceMethod y_A_init ∈ W0 := W0_in (List.mem_of_getElem? (i := 98) (by decide +kernel)) (by decide +kernel)
theorem kcd_A_init : Cond.code y_A_init b_A_init 2 none ∈ W0 := W0_in (List.mem_of_getElem? (i := 99) (by decide +kernel)) (by decide +kernel)
theorem kml_A_3 : Cond.methodLink R_A 3 objectInit ∈ W0 := W0_in (List.mem_of_getElem? (i := 100) (by decide +kernel)) (by decide +kernel)
theorem kcl_A_15 : Cond.classLink R_A 15 R_M ∈ W0 := W0_in (List.mem_of_getElem? (i := 101) (by decide +kernel)) (by decide +kernel)
theorem kis_M : Cond.instantiable R_M 2 ∈ W0 := W0_in (List.mem_of_getElem? (i := 102) (by decide +kernel)) (by decide +kernel)
theorem kml_A_17 : Cond.methodLink R_A 17 y_M_init ∈ W0 := W0_in (List.mem_of_getElem? (i := 103) (by decide +kernel)) (by decide +kernel)
theorem kim_M_init : Cond.instanceMethod y_M_init ∈ W0 := W0_in (List.mem_of_getElem? (i := 104) (by decide +kernel)) (by decide +kernel)
theorem kcd_M_init : Cond.code y_M_init b_M_init 1 none ∈ W0 := W0_in (List.mem_of_getElem? (i := 105) (by decide +kernel)) (by decide +kernel)
theorem kml_M_3 : Cond.methodLink R_M 3 objectInit ∈ W0 := W0_in (List.mem_of_getElem? (i := 106) (by decide +kernel)) (by decide +kernel)
theorem kfl_M_11 : Cond.fieldLink R_M 11 "DiagramStore$Memo" "rows" "[I" ∈ W0 := W0_in (List.mem_of_getElem? (i := 107) (by decide +kernel)) (by decide +kernel)
theorem kfl_M_15 : Cond.fieldLink R_M 15 "DiagramStore$Memo" "age" "I" ∈ W0 := W0_in (List.mem_of_getElem? (i := 108) (by decide +kernel)) (by decide +kernel)
theorem kfl_A_9 : Cond.fieldLink R_A 9 "DiagramStore$Algebra" "nodes" "LDiagramStore$Nodes;" ∈ W0 := W0_in (List.mem_of_getElem? (i := 114) (by decide +kernel)) (by decide +kernel)
theorem kfl_A_18 : Cond.fieldLink R_A 18 "DiagramStore$Algebra" "memo" "LDiagramStore$Memo;" ∈ W0 := W0_in (List.mem_of_getElem? (i := 115) (by decide +kernel)) (by decide +kernel)
theorem kcl_S_35 : Cond.classLink R_S 35 R_F ∈ W0 := W0_in (List.mem_of_getElem? (i := 121) (by decide +kernel)) (by decide +kernel)
theorem kis_F : Cond.instantiable R_F 1 ∈ W0 := W0_in (List.mem_of_getElem? (i := 122) (by decide +kernel)) (by decide +kernel)
theorem kml_S_37 : Cond.methodLink R_S 37 y_F_init ∈ W0 := W0_in (List.mem_of_getElem? (i := 123) (by decide +kernel)) (by decide +kernel)
theorem kim_F_init : Cond.instanceMethod y_F_init ∈ W0 := W0_in (List.mem_of_getElem? (i := 124) (by decide +kernel)) (by decide +kernel)
theorem kcd_F_init : Cond.code y_F_init b_F_init 2 none ∈ W0 := W0_in (List.mem_of_getElem? (i := 125) (by decide +kernel)) (by decide +kernel)
theorem kml_F_3 : Cond.methodLink R_F 3 objectInit ∈ W0 := W0_in (List.mem_of_getElem? (i := 126) (by decide +kernel)) (by decide +kernel)
theorem kfl_F_9 : Cond.fieldLink R_F 9 "DiagramStore$Sifting" "nodes" "LDiagramStore$Nodes;" ∈ W0 := W0_in (List.mem_of_getElem? (i := 127) (by decide +kernel)) (by decide +kernel)
theorem kfl_S_9 : Cond.fieldLink R_S 9 "DiagramStore" "slots" "[I" ∈ W0 := W0_in (List.mem_of_getElem? (i := 131) (by decide +kernel)) (by decide +kernel)
theorem kfl_S_22 : Cond.fieldLink R_S 22 "DiagramStore" "nodes" "LDiagramStore$Nodes;" ∈ W0 := W0_in (List.mem_of_getElem? (i := 132) (by decide +kernel)) (by decide +kernel)
theorem kfl_S_31 : Cond.fieldLink R_S 31 "DiagramStore" "algebra" "LDiagramStore$Algebra;" ∈ W0 := W0_in (List.mem_of_getElem? (i := 133) (by decide +kernel)) (by decide +kernel)
theorem kfl_S_38 : Cond.fieldLink R_S 38 "DiagramStore" "sifting" "LDiagramStore$Sifting;" ∈ W0 := W0_in (List.mem_of_getElem? (i := 134) (by decide +kernel)) (by decide +kernel)
theorem kml_L_99 : Cond.methodLink R_L 99 y_S_wrong ∈ W0 := W0_in (List.mem_of_getElem? (i := 144) (by decide +kernel)) (by decide +kernel)
theorem kim_S_wrong : Cond.instanceMethod y_S_wrong ∈ W0 := W0_in (List.mem_of_getElem? (i := 145) (by decide +kernel)) (by decide +kernel)
theorem ksl_S_wrong : Cond.selects R_S y_S_wrong y_S_wrong ∈ W0 := W0_in (List.mem_of_getElem? (i := 146) (by decide +kernel)) (by decide +kernel)
theorem kcd_S_wrong : Cond.code y_S_wrong b_S_wrong 1 (some .int) ∈ W0 := W0_in (List.mem_of_getElem? (i := 147) (by decide +kernel)) (by decide +kernel)
theorem kml_S_97 : Cond.methodLink R_S 97 y_N_faults ∈ W0 := W0_in (List.mem_of_getElem? (i := 148) (by decide +kernel)) (by decide +kernel)
theorem kim_N_faults : Cond.instanceMethod y_N_faults ∈ W0 := W0_in (List.mem_of_getElem? (i := 149) (by decide +kernel)) (by decide +kernel)
theorem ksl_N_faults : Cond.selects R_N y_N_faults y_N_faults ∈ W0 := W0_in (List.mem_of_getElem? (i := 150) (by decide +kernel)) (by decide +kernel)
theorem kcd_N_faults : Cond.code y_N_faults b_N_faults 5 (some .int) ∈ W0 := W0_in (List.mem_of_getElem? (i := 151) (by decide +kernel)) (by decide +kernel)
theorem kml_N_133 : Cond.methodLink R_N 133 y_N_isMisplaced ∈ W0 := W0_in (List.mem_of_getElem? (i := 152) (by decide +kernel)) (by decide +kernel)
theorem kim_N_isMisplaced : Cond.instanceMethod y_N_isMisplaced ∈ W0 := W0_in (List.mem_of_getElem? (i := 154) (by decide +kernel)) (by decide +kernel)
theorem kcd_N_isMisplaced : Cond.code y_N_isMisplaced b_N_isMisplaced 7 (some .boolean) ∈ W0 := W0_in (List.mem_of_getElem? (i := 155) (by decide +kernel)) (by decide +kernel)
theorem kml_N_46 : Cond.methodLink R_N 46 y_N_get ∈ W0 := W0_in (List.mem_of_getElem? (i := 156) (by decide +kernel)) (by decide +kernel)
theorem kim_N_get : Cond.instanceMethod y_N_get ∈ W0 := W0_in (List.mem_of_getElem? (i := 158) (by decide +kernel)) (by decide +kernel)
theorem kcd_N_get : Cond.code y_N_get b_N_get 4 (some .int) ∈ W0 := W0_in (List.mem_of_getElem? (i := 159) (by decide +kernel)) (by decide +kernel)
theorem kml_N_50 : Cond.methodLink R_N 50 y_N_askedBy ∈ W0 := W0_in (List.mem_of_getElem? (i := 160) (by decide +kernel)) (by decide +kernel)
theorem kim_N_askedBy : Cond.instanceMethod y_N_askedBy ∈ W0 := W0_in (List.mem_of_getElem? (i := 161) (by decide +kernel)) (by decide +kernel)
theorem ksl_N_askedBy : Cond.selects R_N y_N_askedBy y_N_askedBy ∈ W0 := W0_in (List.mem_of_getElem? (i := 162) (by decide +kernel)) (by decide +kernel)
theorem kcd_N_askedBy : Cond.code y_N_askedBy b_N_askedBy 2 (some .int) ∈ W0 := W0_in (List.mem_of_getElem? (i := 163) (by decide +kernel)) (by decide +kernel)
theorem kml_N_54 : Cond.methodLink R_N 54 y_N_levelOf ∈ W0 := W0_in (List.mem_of_getElem? (i := 164) (by decide +kernel)) (by decide +kernel)
theorem kim_N_levelOf : Cond.instanceMethod y_N_levelOf ∈ W0 := W0_in (List.mem_of_getElem? (i := 165) (by decide +kernel)) (by decide +kernel)
theorem ksl_N_levelOf : Cond.selects R_N y_N_levelOf y_N_levelOf ∈ W0 := W0_in (List.mem_of_getElem? (i := 166) (by decide +kernel)) (by decide +kernel)
theorem kcd_N_levelOf : Cond.code y_N_levelOf b_N_levelOf 2 (some .int) ∈ W0 := W0_in (List.mem_of_getElem? (i := 167) (by decide +kernel)) (by decide +kernel)
theorem kml_N_57 : Cond.methodLink R_N 57 y_JM_min ∈ W0 := W0_in (List.mem_of_getElem? (i := 168) (by decide +kernel)) (by decide +kernel)
theorem kst_JM_min : Cond.static y_JM_min ∈ W0 := W0_in (List.mem_of_getElem? (i := 169) (by decide +kernel)) (by decide +kernel)
theorem kcd_JM_min : Cond.code y_JM_min b_JM_min 2 (some .int) ∈ W0 := W0_in (List.mem_of_getElem? (i := 170) (by decide +kernel)) (by decide +kernel)
theorem kml_N_69 : Cond.methodLink R_N 69 y_N_chainFor ∈ W0 := W0_in (List.mem_of_getElem? (i := 171) (by decide +kernel)) (by decide +kernel)
theorem kst_N_chainFor : Cond.static y_N_chainFor ∈ W0 := W0_in (List.mem_of_getElem? (i := 172) (by decide +kernel)) (by decide +kernel)
theorem kcd_N_chainFor : Cond.code y_N_chainFor b_N_chainFor 4 (some .int) ∈ W0 := W0_in (List.mem_of_getElem? (i := 173) (by decide +kernel)) (by decide +kernel)
theorem kco_N_85 : Cond.constant R_N 85 (-1640531535) ∈ W0 := W0_in (List.mem_of_getElem? (i := 174) (by decide +kernel)) (by decide +kernel)
theorem kco_N_86 : Cond.constant R_N 86 (-2048144789) ∈ W0 := W0_in (List.mem_of_getElem? (i := 175) (by decide +kernel)) (by decide +kernel)
theorem kml_N_137 : Cond.methodLink R_N 137 y_N_isThereTwice ∈ W0 := W0_in (List.mem_of_getElem? (i := 176) (by decide +kernel)) (by decide +kernel)
theorem kim_N_isThereTwice : Cond.instanceMethod y_N_isThereTwice ∈ W0 := W0_in (List.mem_of_getElem? (i := 178) (by decide +kernel)) (by decide +kernel)
theorem kcd_N_isThereTwice : Cond.code y_N_isThereTwice b_N_isThereTwice 4 (some .boolean) ∈ W0 := W0_in (List.mem_of_getElem? (i := 179) (by decide +kernel)) (by decide +kernel)
theorem kml_L_7 : Cond.methodLink R_L 7 y_S_constant ∈ W0 := W0_in (List.mem_of_getElem? (i := 184) (by decide +kernel)) (by decide +kernel)
theorem kim_S_constant : Cond.instanceMethod y_S_constant ∈ W0 := W0_in (List.mem_of_getElem? (i := 185) (by decide +kernel)) (by decide +kernel)
theorem ksl_S_constant : Cond.selects R_S y_S_constant y_S_constant ∈ W0 := W0_in (List.mem_of_getElem? (i := 186) (by decide +kernel)) (by decide +kernel)
theorem kcd_S_constant : Cond.code y_S_constant b_S_constant 3 none ∈ W0 := W0_in (List.mem_of_getElem? (i := 187) (by decide +kernel)) (by decide +kernel)
theorem kml_S_42 : Cond.methodLink R_S 42 y_S_requireSlot ∈ W0 := W0_in (List.mem_of_getElem? (i := 188) (by decide +kernel)) (by decide +kernel)
theorem kst_S_requireSlot : Cond.static y_S_requireSlot ∈ W0 := W0_in (List.mem_of_getElem? (i := 189) (by decide +kernel)) (by decide +kernel)
theorem kcd_S_requireSlot : Cond.code y_S_requireSlot b_S_requireSlot 1 none ∈ W0 := W0_in (List.mem_of_getElem? (i := 190) (by decide +kernel)) (by decide +kernel)
theorem kml_S_50 : Cond.methodLink R_S 50 y_S_requireBelow ∈ W0 := W0_in (List.mem_of_getElem? (i := 191) (by decide +kernel)) (by decide +kernel)
theorem kst_S_requireBelow : Cond.static y_S_requireBelow ∈ W0 := W0_in (List.mem_of_getElem? (i := 192) (by decide +kernel)) (by decide +kernel)
theorem kcd_S_requireBelow : Cond.code y_S_requireBelow b_S_requireBelow 2 none ∈ W0 := W0_in (List.mem_of_getElem? (i := 193) (by decide +kernel)) (by decide +kernel)
theorem kac_byte : Cond.arrayClass .byte ∈ W0 := W0_in (List.mem_of_getElem? (i := 260) (by decide +kernel)) (by decide +kernel)
theorem kml_S_46 : Cond.methodLink R_S 46 y_S_put ∈ W0 := W0_in (List.mem_of_getElem? (i := 261) (by decide +kernel)) (by decide +kernel)
theorem kim_S_put : Cond.instanceMethod y_S_put ∈ W0 := W0_in (List.mem_of_getElem? (i := 263) (by decide +kernel)) (by decide +kernel)
theorem kcd_S_put : Cond.code y_S_put b_S_put 4 (some .boolean) ∈ W0 := W0_in (List.mem_of_getElem? (i := 264) (by decide +kernel)) (by decide +kernel)
theorem kml_S_100 : Cond.methodLink R_S 100 y_N_refer ∈ W0 := W0_in (List.mem_of_getElem? (i := 265) (by decide +kernel)) (by decide +kernel)
theorem kim_N_refer : Cond.instanceMethod y_N_refer ∈ W0 := W0_in (List.mem_of_getElem? (i := 266) (by decide +kernel)) (by decide +kernel)
theorem ksl_N_refer : Cond.selects R_N y_N_refer y_N_refer ∈ W0 := W0_in (List.mem_of_getElem? (i := 267) (by decide +kernel)) (by decide +kernel)
theorem kcd_N_refer : Cond.code y_N_refer b_N_refer 3 none ∈ W0 := W0_in (List.mem_of_getElem? (i := 268) (by decide +kernel)) (by decide +kernel)
theorem kml_N_65 : Cond.methodLink R_N 65 y_N_set ∈ W0 := W0_in (List.mem_of_getElem? (i := 269) (by decide +kernel)) (by decide +kernel)
theorem kim_N_set : Cond.instanceMethod y_N_set ∈ W0 := W0_in (List.mem_of_getElem? (i := 271) (by decide +kernel)) (by decide +kernel)
theorem kcd_N_set : Cond.code y_N_set b_N_set 5 none ∈ W0 := W0_in (List.mem_of_getElem? (i := 272) (by decide +kernel)) (by decide +kernel)
theorem kml_L_15 : Cond.methodLink R_L 15 y_S_variable ∈ W0 := W0_in (List.mem_of_getElem? (i := 276) (by decide +kernel)) (by decide +kernel)
theorem kim_S_variable : Cond.instanceMethod y_S_variable ∈ W0 := W0_in (List.mem_of_getElem? (i := 277) (by decide +kernel)) (by decide +kernel)
theorem ksl_S_variable : Cond.selects R_S y_S_variable y_S_variable ∈ W0 := W0_in (List.mem_of_getElem? (i := 278) (by decide +kernel)) (by decide +kernel)
theorem kcd_S_variable : Cond.code y_S_variable b_S_variable 3 none ∈ W0 := W0_in (List.mem_of_getElem? (i := 279) (by decide +kernel)) (by decide +kernel)
theorem kml_S_54 : Cond.methodLink R_S 54 y_A_truthOf ∈ W0 := W0_in (List.mem_of_getElem? (i := 280) (by decide +kernel)) (by decide +kernel)
theorem kim_A_truthOf : Cond.instanceMethod y_A_truthOf ∈ W0 := W0_in (List.mem_of_getElem? (i := 281) (by decide +kernel)) (by decide +kernel)
theorem ksl_A_truthOf : Cond.selects R_A y_A_truthOf y_A_truthOf ∈ W0 := W0_in (List.mem_of_getElem? (i := 282) (by decide +kernel)) (by decide +kernel)
theorem kcd_A_truthOf : Cond.code y_A_truthOf b_A_truthOf 2 (some .int) ∈ W0 := W0_in (List.mem_of_getElem? (i := 283) (by decide +kernel)) (by decide +kernel)
theorem kml_A_31 : Cond.methodLink R_A 31 y_A_begin ∈ W0 := W0_in (List.mem_of_getElem? (i := 284) (by decide +kernel)) (by decide +kernel)
theorem kim_A_begin : Cond.instanceMethod y_A_begin ∈ W0 := W0_in (List.mem_of_getElem? (i := 286) (by decide +kernel)) (by decide +kernel)
theorem kcd_A_begin : Cond.code y_A_begin b_A_begin 2 none ∈ W0 := W0_in (List.mem_of_getElem? (i := 287) (by decide +kernel)) (by decide +kernel)
theorem kml_A_22 : Cond.methodLink R_A 22 y_N_makeRoom ∈ W0 := W0_in (List.mem_of_getElem? (i := 288) (by decide +kernel)) (by decide +kernel)
theorem kim_N_makeRoom : Cond.instanceMethod y_N_makeRoom ∈ W0 := W0_in (List.mem_of_getElem? (i := 289) (by decide +kernel)) (by decide +kernel)
theorem ksl_N_makeRoom : Cond.selects R_N y_N_makeRoom y_N_makeRoom ∈ W0 := W0_in (List.mem_of_getElem? (i := 290) (by decide +kernel)) (by decide +kernel)
theorem kcd_N_makeRoom : Cond.code y_N_makeRoom b_N_makeRoom 2 none ∈ W0 := W0_in (List.mem_of_getElem? (i := 291) (by decide +kernel)) (by decide +kernel)
theorem kml_N_87 : Cond.methodLink R_N 87 y_N_collect ∈ W0 := W0_in (List.mem_of_getElem? (i := 292) (by decide +kernel)) (by decide +kernel)
theorem kim_N_collect : Cond.instanceMethod y_N_collect ∈ W0 := W0_in (List.mem_of_getElem? (i := 293) (by decide +kernel)) (by decide +kernel)
theorem ksl_N_collect : Cond.selects R_N y_N_collect y_N_collect ∈ W0 := W0_in (List.mem_of_getElem? (i := 294) (by decide +kernel)) (by decide +kernel)
theorem kcd_N_collect : Cond.code y_N_collect b_N_collect 4 none ∈ W0 := W0_in (List.mem_of_getElem? (i := 295) (by decide +kernel)) (by decide +kernel)
theorem kml_N_62 : Cond.methodLink R_N 62 y_N_variableAt ∈ W0 := W0_in (List.mem_of_getElem? (i := 296) (by decide +kernel)) (by decide +kernel)
theorem kim_N_variableAt : Cond.instanceMethod y_N_variableAt ∈ W0 := W0_in (List.mem_of_getElem? (i := 297) (by decide +kernel)) (by decide +kernel)
theorem ksl_N_variableAt : Cond.selects R_N y_N_variableAt y_N_variableAt ∈ W0 := W0_in (List.mem_of_getElem? (i := 298) (by decide +kernel)) (by decide +kernel)
theorem kcd_N_variableAt : Cond.code y_N_variableAt b_N_variableAt 2 (some .int) ∈ W0 := W0_in (List.mem_of_getElem? (i := 299) (by decide +kernel)) (by decide +kernel)
theorem kml_N_103 : Cond.methodLink R_N 103 y_N_needed ∈ W0 := W0_in (List.mem_of_getElem? (i := 300) (by decide +kernel)) (by decide +kernel)
theorem kim_N_needed : Cond.instanceMethod y_N_needed ∈ W0 := W0_in (List.mem_of_getElem? (i := 302) (by decide +kernel)) (by decide +kernel)
theorem kcd_N_needed : Cond.code y_N_needed b_N_needed 7 (some .int) ∈ W0 := W0_in (List.mem_of_getElem? (i := 303) (by decide +kernel)) (by decide +kernel)
theorem kml_N_77 : Cond.methodLink R_N 77 y_N_refer ∈ W0 := W0_in (List.mem_of_getElem? (i := 304) (by decide +kernel)) (by decide +kernel)
theorem kml_N_106 : Cond.methodLink R_N 106 y_N_giveBack ∈ W0 := W0_in (List.mem_of_getElem? (i := 305) (by decide +kernel)) (by decide +kernel)
theorem kim_N_giveBack : Cond.instanceMethod y_N_giveBack ∈ W0 := W0_in (List.mem_of_getElem? (i := 307) (by decide +kernel)) (by decide +kernel)
theorem kcd_N_giveBack : Cond.code y_N_giveBack b_N_giveBack 2 none ∈ W0 := W0_in (List.mem_of_getElem? (i := 308) (by decide +kernel)) (by decide +kernel)
theorem kml_N_90 : Cond.methodLink R_N 90 y_JM_max ∈ W0 := W0_in (List.mem_of_getElem? (i := 309) (by decide +kernel)) (by decide +kernel)
theorem kst_JM_max : Cond.static y_JM_max ∈ W0 := W0_in (List.mem_of_getElem? (i := 310) (by decide +kernel)) (by decide +kernel)
theorem kcd_JM_max : Cond.code y_JM_max b_JM_max 2 (some .int) ∈ W0 := W0_in (List.mem_of_getElem? (i := 311) (by decide +kernel)) (by decide +kernel)
theorem kml_N_93 : Cond.methodLink R_N 93 y_N_widen ∈ W0 := W0_in (List.mem_of_getElem? (i := 312) (by decide +kernel)) (by decide +kernel)
theorem kim_N_widen : Cond.instanceMethod y_N_widen ∈ W0 := W0_in (List.mem_of_getElem? (i := 314) (by decide +kernel)) (by decide +kernel)
theorem kcd_N_widen : Cond.code y_N_widen b_N_widen 3 none ∈ W0 := W0_in (List.mem_of_getElem? (i := 315) (by decide +kernel)) (by decide +kernel)
theorem kml_N_97 : Cond.methodLink R_N 97 y_JA_copyOf ∈ W0 := W0_in (List.mem_of_getElem? (i := 316) (by decide +kernel)) (by decide +kernel)
theorem kst_JA_copyOf : Cond.static y_JA_copyOf ∈ W0 := W0_in (List.mem_of_getElem? (i := 317) (by decide +kernel)) (by decide +kernel)
theorem kcd_JA_copyOf : Cond.code y_JA_copyOf b_JA_copyOf 3 (some (.array .int)) ∈ W0 := W0_in (List.mem_of_getElem? (i := 318) (by decide +kernel)) (by decide +kernel)
theorem kml_JA_304 : Cond.methodLink R_JA 304 y_JM_min ∈ W0 := W0_in (List.mem_of_getElem? (i := 326) (by decide +kernel)) (by decide +kernel)
theorem kml_A_28 : Cond.methodLink R_A 28 y_M_forget ∈ W0 := W0_in (List.mem_of_getElem? (i := 330) (by decide +kernel)) (by decide +kernel)
theorem kim_M_forget : Cond.instanceMethod y_M_forget ∈ W0 := W0_in (List.mem_of_getElem? (i := 331) (by decide +kernel)) (by decide +kernel)
theorem ksl_M_forget : Cond.selects R_M y_M_forget y_M_forget ∈ W0 := W0_in (List.mem_of_getElem? (i := 332) (by decide +kernel)) (by decide +kernel)
theorem kcd_M_forget : Cond.code y_M_forget b_M_forget 1 none ∈ W0 := W0_in (List.mem_of_getElem? (i := 333) (by decide +kernel)) (by decide +kernel)
theorem kml_A_34 : Cond.methodLink R_A 34 y_N_make ∈ W0 := W0_in (List.mem_of_getElem? (i := 334) (by decide +kernel)) (by decide +kernel)
theorem kim_N_make : Cond.instanceMethod y_N_make ∈ W0 := W0_in (List.mem_of_getElem? (i := 335) (by decide +kernel)) (by decide +kernel)
theorem ksl_N_make : Cond.selects R_N y_N_make y_N_make ∈ W0 := W0_in (List.mem_of_getElem? (i := 336) (by decide +kernel)) (by decide +kernel)
theorem kcd_N_make : Cond.code y_N_make b_N_make 7 (some .int) ∈ W0 := W0_in (List.mem_of_getElem? (i := 337) (by decide +kernel)) (by decide +kernel)
theorem kml_N_73 : Cond.methodLink R_N 73 y_N_freshRow ∈ W0 := W0_in (List.mem_of_getElem? (i := 338) (by decide +kernel)) (by decide +kernel)
theorem kim_N_freshRow : Cond.instanceMethod y_N_freshRow ∈ W0 := W0_in (List.mem_of_getElem? (i := 340) (by decide +kernel)) (by decide +kernel)
theorem kcd_N_freshRow : Cond.code y_N_freshRow b_N_freshRow 2 (some .int) ∈ W0 := W0_in (List.mem_of_getElem? (i := 341) (by decide +kernel)) (by decide +kernel)
theorem kml_N_81 : Cond.methodLink R_N 81 y_N_link ∈ W0 := W0_in (List.mem_of_getElem? (i := 342) (by decide +kernel)) (by decide +kernel)
theorem kim_N_link : Cond.instanceMethod y_N_link ∈ W0 := W0_in (List.mem_of_getElem? (i := 344) (by decide +kernel)) (by decide +kernel)
theorem kcd_N_link : Cond.code y_N_link b_N_link 6 none ∈ W0 := W0_in (List.mem_of_getElem? (i := 345) (by decide +kernel)) (by decide +kernel)
theorem kml_L_19 : Cond.methodLink R_L 19 y_S_choose ∈ W0 := W0_in (List.mem_of_getElem? (i := 349) (by decide +kernel)) (by decide +kernel)
theorem kim_S_choose : Cond.instanceMethod y_S_choose ∈ W0 := W0_in (List.mem_of_getElem? (i := 350) (by decide +kernel)) (by decide +kernel)
theorem ksl_S_choose : Cond.selects R_S y_S_choose y_S_choose ∈ W0 := W0_in (List.mem_of_getElem? (i := 351) (by decide +kernel)) (by decide +kernel)
theorem kcd_S_choose : Cond.code y_S_choose b_S_choose 5 (some .boolean) ∈ W0 := W0_in (List.mem_of_getElem? (i := 352) (by decide +kernel)) (by decide +kernel)
theorem kml_S_58 : Cond.methodLink R_S 58 y_A_chosen ∈ W0 := W0_in (List.mem_of_getElem? (i := 353) (by decide +kernel)) (by decide +kernel)
theorem kim_A_chosen : Cond.instanceMethod y_A_chosen ∈ W0 := W0_in (List.mem_of_getElem? (i := 354) (by decide +kernel)) (by decide +kernel)
theorem ksl_A_chosen : Cond.selects R_A y_A_chosen y_A_chosen ∈ W0 := W0_in (List.mem_of_getElem? (i := 355) (by decide +kernel)) (by decide +kernel)
theorem kcd_A_chosen : Cond.code y_A_chosen b_A_chosen 4 (some .int) ∈ W0 := W0_in (List.mem_of_getElem? (i := 356) (by decide +kernel)) (by decide +kernel)
theorem kml_A_38 : Cond.methodLink R_A 38 y_A_pick ∈ W0 := W0_in (List.mem_of_getElem? (i := 357) (by decide +kernel)) (by decide +kernel)
theorem kim_A_pick : Cond.instanceMethod y_A_pick ∈ W0 := W0_in (List.mem_of_getElem? (i := 359) (by decide +kernel)) (by decide +kernel)
theorem kcd_A_pick : Cond.code y_A_pick b_A_pick 10 (some .int) ∈ W0 := W0_in (List.mem_of_getElem? (i := 360) (by decide +kernel)) (by decide +kernel)
theorem kml_A_53 : Cond.methodLink R_A 53 y_M_answerFor ∈ W0 := W0_in (List.mem_of_getElem? (i := 361) (by decide +kernel)) (by decide +kernel)
theorem kim_M_answerFor : Cond.instanceMethod y_M_answerFor ∈ W0 := W0_in (List.mem_of_getElem? (i := 362) (by decide +kernel)) (by decide +kernel)
theorem ksl_M_answerFor : Cond.selects R_M y_M_answerFor y_M_answerFor ∈ W0 := W0_in (List.mem_of_getElem? (i := 363) (by decide +kernel)) (by decide +kernel)
theorem kcd_M_answerFor : Cond.code y_M_answerFor b_M_answerFor 6 (some .int) ∈ W0 := W0_in (List.mem_of_getElem? (i := 364) (by decide +kernel)) (by decide +kernel)
theorem kml_M_22 : Cond.methodLink R_M 22 y_M_placeFor ∈ W0 := W0_in (List.mem_of_getElem? (i := 365) (by decide +kernel)) (by decide +kernel)
theorem kst_M_placeFor : Cond.static y_M_placeFor ∈ W0 := W0_in (List.mem_of_getElem? (i := 366) (by decide +kernel)) (by decide +kernel)
theorem kcd_M_placeFor : Cond.code y_M_placeFor b_M_placeFor 4 (some .int) ∈ W0 := W0_in (List.mem_of_getElem? (i := 367) (by decide +kernel)) (by decide +kernel)
theorem kco_M_19 : Cond.constant R_M 19 (-1640531535) ∈ W0 := W0_in (List.mem_of_getElem? (i := 368) (by decide +kernel)) (by decide +kernel)
theorem kco_M_20 : Cond.constant R_M 20 (-2048144789) ∈ W0 := W0_in (List.mem_of_getElem? (i := 369) (by decide +kernel)) (by decide +kernel)
theorem kco_M_21 : Cond.constant R_M 21 (-1028477387) ∈ W0 := W0_in (List.mem_of_getElem? (i := 370) (by decide +kernel)) (by decide +kernel)
theorem kml_A_56 : Cond.methodLink R_A 56 y_N_firstAsked ∈ W0 := W0_in (List.mem_of_getElem? (i := 371) (by decide +kernel)) (by decide +kernel)
theorem kim_N_firstAsked : Cond.instanceMethod y_N_firstAsked ∈ W0 := W0_in (List.mem_of_getElem? (i := 372) (by decide +kernel)) (by decide +kernel)
theorem ksl_N_firstAsked : Cond.selects R_N y_N_firstAsked y_N_firstAsked ∈ W0 := W0_in (List.mem_of_getElem? (i := 373) (by decide +kernel)) (by decide +kernel)
theorem kcd_N_firstAsked : Cond.code y_N_firstAsked b_N_firstAsked 5 (some .int) ∈ W0 := W0_in (List.mem_of_getElem? (i := 374) (by decide +kernel)) (by decide +kernel)
theorem kml_A_59 : Cond.methodLink R_A 59 y_N_lowFor ∈ W0 := W0_in (List.mem_of_getElem? (i := 375) (by decide +kernel)) (by decide +kernel)
theorem kim_N_lowFor : Cond.instanceMethod y_N_lowFor ∈ W0 := W0_in (List.mem_of_getElem? (i := 376) (by decide +kernel)) (by decide +kernel)
theorem ksl_N_lowFor : Cond.selects R_N y_N_lowFor y_N_lowFor ∈ W0 := W0_in (List.mem_of_getElem? (i := 377) (by decide +kernel)) (by decide +kernel)
theorem kcd_N_lowFor : Cond.code y_N_lowFor b_N_lowFor 3 (some .int) ∈ W0 := W0_in (List.mem_of_getElem? (i := 378) (by decide +kernel)) (by decide +kernel)
theorem kml_A_62 : Cond.methodLink R_A 62 y_N_highFor ∈ W0 := W0_in (List.mem_of_getElem? (i := 379) (by decide +kernel)) (by decide +kernel)
theorem kim_N_highFor : Cond.instanceMethod y_N_highFor ∈ W0 := W0_in (List.mem_of_getElem? (i := 380) (by decide +kernel)) (by decide +kernel)
theorem ksl_N_highFor : Cond.selects R_N y_N_highFor y_N_highFor ∈ W0 := W0_in (List.mem_of_getElem? (i := 381) (by decide +kernel)) (by decide +kernel)
theorem kcd_N_highFor : Cond.code y_N_highFor b_N_highFor 3 (some .int) ∈ W0 := W0_in (List.mem_of_getElem? (i := 382) (by decide +kernel)) (by decide +kernel)
theorem kml_A_65 : Cond.methodLink R_A 65 y_M_keep ∈ W0 := W0_in (List.mem_of_getElem? (i := 383) (by decide +kernel)) (by decide +kernel)
theorem kim_M_keep : Cond.instanceMethod y_M_keep ∈ W0 := W0_in (List.mem_of_getElem? (i := 384) (by decide +kernel)) (by decide +kernel)
theorem ksl_M_keep : Cond.selects R_M y_M_keep y_M_keep ∈ W0 := W0_in (List.mem_of_getElem? (i := 385) (by decide +kernel)) (by decide +kernel)
theorem kcd_M_keep : Cond.code y_M_keep b_M_keep 6 none ∈ W0 := W0_in (List.mem_of_getElem? (i := 386) (by decide +kernel)) (by decide +kernel)
theorem kml_L_23 : Cond.methodLink R_L 23 y_S_join ∈ W0 := W0_in (List.mem_of_getElem? (i := 390) (by decide +kernel)) (by decide +kernel)
theorem kim_S_join : Cond.instanceMethod y_S_join ∈ W0 := W0_in (List.mem_of_getElem? (i := 391) (by decide +kernel)) (by decide +kernel)
theorem ksl_S_join : Cond.selects R_S y_S_join y_S_join ∈ W0 := W0_in (List.mem_of_getElem? (i := 392) (by decide +kernel)) (by decide +kernel)
theorem kcd_S_join : Cond.code y_S_join b_S_join 5 (some .boolean) ∈ W0 := W0_in (List.mem_of_getElem? (i := 393) (by decide +kernel)) (by decide +kernel)
theorem kml_S_62 : Cond.methodLink R_S 62 y_A_joined ∈ W0 := W0_in (List.mem_of_getElem? (i := 394) (by decide +kernel)) (by decide +kernel)
theorem kim_A_joined : Cond.instanceMethod y_A_joined ∈ W0 := W0_in (List.mem_of_getElem? (i := 395) (by decide +kernel)) (by decide +kernel)
theorem ksl_A_joined : Cond.selects R_A y_A_joined y_A_joined ∈ W0 := W0_in (List.mem_of_getElem? (i := 396) (by decide +kernel)) (by decide +kernel)
theorem kcd_A_joined : Cond.code y_A_joined b_A_joined 4 (some .int) ∈ W0 := W0_in (List.mem_of_getElem? (i := 397) (by decide +kernel)) (by decide +kernel)
theorem kml_L_26 : Cond.methodLink R_L 26 y_S_some ∈ W0 := W0_in (List.mem_of_getElem? (i := 401) (by decide +kernel)) (by decide +kernel)
theorem kim_S_some : Cond.instanceMethod y_S_some ∈ W0 := W0_in (List.mem_of_getElem? (i := 402) (by decide +kernel)) (by decide +kernel)
theorem ksl_S_some : Cond.selects R_S y_S_some y_S_some ∈ W0 := W0_in (List.mem_of_getElem? (i := 403) (by decide +kernel)) (by decide +kernel)
theorem kcd_S_some : Cond.code y_S_some b_S_some 5 (some .boolean) ∈ W0 := W0_in (List.mem_of_getElem? (i := 404) (by decide +kernel)) (by decide +kernel)
theorem kml_S_65 : Cond.methodLink R_S 65 y_A_bothForSome ∈ W0 := W0_in (List.mem_of_getElem? (i := 405) (by decide +kernel)) (by decide +kernel)
theorem kim_A_bothForSome : Cond.instanceMethod y_A_bothForSome ∈ W0 := W0_in (List.mem_of_getElem? (i := 406) (by decide +kernel)) (by decide +kernel)
theorem ksl_A_bothForSome : Cond.selects R_A y_A_bothForSome y_A_bothForSome ∈ W0 := W0_in (List.mem_of_getElem? (i := 407) (by decide +kernel)) (by decide +kernel)
theorem kcd_A_bothForSome : Cond.code y_A_bothForSome b_A_bothForSome 4 (some .int) ∈ W0 := W0_in (List.mem_of_getElem? (i := 408) (by decide +kernel)) (by decide +kernel)
theorem kml_A_42 : Cond.methodLink R_A 42 y_A_freed ∈ W0 := W0_in (List.mem_of_getElem? (i := 409) (by decide +kernel)) (by decide +kernel)
theorem kim_A_freed : Cond.instanceMethod y_A_freed ∈ W0 := W0_in (List.mem_of_getElem? (i := 411) (by decide +kernel)) (by decide +kernel)
theorem kcd_A_freed : Cond.code y_A_freed b_A_freed 10 (some .int) ∈ W0 := W0_in (List.mem_of_getElem? (i := 412) (by decide +kernel)) (by decide +kernel)
theorem kml_A_69 : Cond.methodLink R_A 69 y_N_askedBy ∈ W0 := W0_in (List.mem_of_getElem? (i := 413) (by decide +kernel)) (by decide +kernel)
theorem kml_L_29 : Cond.methodLink R_L 29 y_S_turn ∈ W0 := W0_in (List.mem_of_getElem? (i := 417) (by decide +kernel)) (by decide +kernel)
theorem kim_S_turn : Cond.instanceMethod y_S_turn ∈ W0 := W0_in (List.mem_of_getElem? (i := 418) (by decide +kernel)) (by decide +kernel)
theorem ksl_S_turn : Cond.selects R_S y_S_turn y_S_turn ∈ W0 := W0_in (List.mem_of_getElem? (i := 419) (by decide +kernel)) (by decide +kernel)
theorem kcd_S_turn : Cond.code y_S_turn b_S_turn 3 (some .boolean) ∈ W0 := W0_in (List.mem_of_getElem? (i := 420) (by decide +kernel)) (by decide +kernel)
theorem kml_S_68 : Cond.methodLink R_S 68 y_A_turned ∈ W0 := W0_in (List.mem_of_getElem? (i := 421) (by decide +kernel)) (by decide +kernel)
theorem kim_A_turned : Cond.instanceMethod y_A_turned ∈ W0 := W0_in (List.mem_of_getElem? (i := 422) (by decide +kernel)) (by decide +kernel)
theorem ksl_A_turned : Cond.selects R_A y_A_turned y_A_turned ∈ W0 := W0_in (List.mem_of_getElem? (i := 423) (by decide +kernel)) (by decide +kernel)
theorem kcd_A_turned : Cond.code y_A_turned b_A_turned 2 (some .int) ∈ W0 := W0_in (List.mem_of_getElem? (i := 424) (by decide +kernel)) (by decide +kernel)
theorem kml_A_45 : Cond.methodLink R_A 45 y_A_hanging ∈ W0 := W0_in (List.mem_of_getElem? (i := 425) (by decide +kernel)) (by decide +kernel)
theorem kim_A_hanging : Cond.instanceMethod y_A_hanging ∈ W0 := W0_in (List.mem_of_getElem? (i := 427) (by decide +kernel)) (by decide +kernel)
theorem kcd_A_hanging : Cond.code y_A_hanging b_A_hanging 6 (some .int) ∈ W0 := W0_in (List.mem_of_getElem? (i := 428) (by decide +kernel)) (by decide +kernel)
theorem kml_A_49 : Cond.methodLink R_A 49 y_A_turnedFrom ∈ W0 := W0_in (List.mem_of_getElem? (i := 429) (by decide +kernel)) (by decide +kernel)
theorem kim_A_turnedFrom : Cond.instanceMethod y_A_turnedFrom ∈ W0 := W0_in (List.mem_of_getElem? (i := 431) (by decide +kernel)) (by decide +kernel)
theorem kcd_A_turnedFrom : Cond.code y_A_turnedFrom b_A_turnedFrom 11 (some .int) ∈ W0 := W0_in (List.mem_of_getElem? (i := 432) (by decide +kernel)) (by decide +kernel)
theorem kml_A_73 : Cond.methodLink R_A 73 y_N_followed ∈ W0 := W0_in (List.mem_of_getElem? (i := 433) (by decide +kernel)) (by decide +kernel)
theorem kim_N_followed : Cond.instanceMethod y_N_followed ∈ W0 := W0_in (List.mem_of_getElem? (i := 434) (by decide +kernel)) (by decide +kernel)
theorem ksl_N_followed : Cond.selects R_N y_N_followed y_N_followed ∈ W0 := W0_in (List.mem_of_getElem? (i := 435) (by decide +kernel)) (by decide +kernel)
theorem kcd_N_followed : Cond.code y_N_followed b_N_followed 7 (some .int) ∈ W0 := W0_in (List.mem_of_getElem? (i := 436) (by decide +kernel)) (by decide +kernel)
theorem kml_A_76 : Cond.methodLink R_A 76 y_N_variableAt ∈ W0 := W0_in (List.mem_of_getElem? (i := 437) (by decide +kernel)) (by decide +kernel)
theorem kml_L_33 : Cond.methodLink R_L 33 y_S_value ∈ W0 := W0_in (List.mem_of_getElem? (i := 441) (by decide +kernel)) (by decide +kernel)
theorem kim_S_value : Cond.instanceMethod y_S_value ∈ W0 := W0_in (List.mem_of_getElem? (i := 442) (by decide +kernel)) (by decide +kernel)
theorem ksl_S_value : Cond.selects R_S y_S_value y_S_value ∈ W0 := W0_in (List.mem_of_getElem? (i := 443) (by decide +kernel)) (by decide +kernel)
theorem kcd_S_value : Cond.code y_S_value b_S_value 3 (some .boolean) ∈ W0 := W0_in (List.mem_of_getElem? (i := 444) (by decide +kernel)) (by decide +kernel)
theorem kml_S_71 : Cond.methodLink R_S 71 y_N_truthFor ∈ W0 := W0_in (List.mem_of_getElem? (i := 445) (by decide +kernel)) (by decide +kernel)
theorem kim_N_truthFor : Cond.instanceMethod y_N_truthFor ∈ W0 := W0_in (List.mem_of_getElem? (i := 446) (by decide +kernel)) (by decide +kernel)
theorem ksl_N_truthFor : Cond.selects R_N y_N_truthFor y_N_truthFor ∈ W0 := W0_in (List.mem_of_getElem? (i := 447) (by decide +kernel)) (by decide +kernel)
theorem kcd_N_truthFor : Cond.code y_N_truthFor b_N_truthFor 6 (some .boolean) ∈ W0 := W0_in (List.mem_of_getElem? (i := 448) (by decide +kernel)) (by decide +kernel)
theorem kml_L_36 : Cond.methodLink R_L 36 y_S_same ∈ W0 := W0_in (List.mem_of_getElem? (i := 452) (by decide +kernel)) (by decide +kernel)
theorem kim_S_same : Cond.instanceMethod y_S_same ∈ W0 := W0_in (List.mem_of_getElem? (i := 453) (by decide +kernel)) (by decide +kernel)
theorem ksl_S_same : Cond.selects R_S y_S_same y_S_same ∈ W0 := W0_in (List.mem_of_getElem? (i := 454) (by decide +kernel)) (by decide +kernel)
theorem kcd_S_same : Cond.code y_S_same b_S_same 3 (some .boolean) ∈ W0 := W0_in (List.mem_of_getElem? (i := 455) (by decide +kernel)) (by decide +kernel)
theorem kml_L_39 : Cond.methodLink R_L 39 y_S_count ∈ W0 := W0_in (List.mem_of_getElem? (i := 460) (by decide +kernel)) (by decide +kernel)
theorem kim_S_count : Cond.instanceMethod y_S_count ∈ W0 := W0_in (List.mem_of_getElem? (i := 461) (by decide +kernel)) (by decide +kernel)
theorem ksl_S_count : Cond.selects R_S y_S_count y_S_count ∈ W0 := W0_in (List.mem_of_getElem? (i := 462) (by decide +kernel)) (by decide +kernel)
theorem kcd_S_count : Cond.code y_S_count b_S_count 5 (some .int) ∈ W0 := W0_in (List.mem_of_getElem? (i := 463) (by decide +kernel)) (by decide +kernel)
theorem kml_S_74 : Cond.methodLink R_S 74 y_A_hangsOn ∈ W0 := W0_in (List.mem_of_getElem? (i := 464) (by decide +kernel)) (by decide +kernel)
theorem kim_A_hangsOn : Cond.instanceMethod y_A_hangsOn ∈ W0 := W0_in (List.mem_of_getElem? (i := 465) (by decide +kernel)) (by decide +kernel)
theorem ksl_A_hangsOn : Cond.selects R_A y_A_hangsOn y_A_hangsOn ∈ W0 := W0_in (List.mem_of_getElem? (i := 466) (by decide +kernel)) (by decide +kernel)
theorem kcd_A_hangsOn : Cond.code y_A_hangsOn b_A_hangsOn 2 (some .int) ∈ W0 := W0_in (List.mem_of_getElem? (i := 467) (by decide +kernel)) (by decide +kernel)
theorem kml_L_45 : Cond.methodLink R_L 45 y_S_support ∈ W0 := W0_in (List.mem_of_getElem? (i := 487) (by decide +kernel)) (by decide +kernel)
theorem kim_S_support : Cond.instanceMethod y_S_support ∈ W0 := W0_in (List.mem_of_getElem? (i := 488) (by decide +kernel)) (by decide +kernel)
theorem ksl_S_support : Cond.selects R_S y_S_support y_S_support ∈ W0 := W0_in (List.mem_of_getElem? (i := 489) (by decide +kernel)) (by decide +kernel)
theorem kcd_S_support : Cond.code y_S_support b_S_support 2 (some .int) ∈ W0 := W0_in (List.mem_of_getElem? (i := 490) (by decide +kernel)) (by decide +kernel)
theorem kml_L_48 : Cond.methodLink R_L 48 y_S_tidy ∈ W0 := W0_in (List.mem_of_getElem? (i := 494) (by decide +kernel)) (by decide +kernel)
theorem kim_S_tidy : Cond.instanceMethod y_S_tidy ∈ W0 := W0_in (List.mem_of_getElem? (i := 495) (by decide +kernel)) (by decide +kernel)
theorem ksl_S_tidy : Cond.selects R_S y_S_tidy y_S_tidy ∈ W0 := W0_in (List.mem_of_getElem? (i := 496) (by decide +kernel)) (by decide +kernel)
theorem kcd_S_tidy : Cond.code y_S_tidy b_S_tidy 2 (some .int) ∈ W0 := W0_in (List.mem_of_getElem? (i := 497) (by decide +kernel)) (by decide +kernel)
theorem kml_S_84 : Cond.methodLink R_S 84 y_N_collect ∈ W0 := W0_in (List.mem_of_getElem? (i := 498) (by decide +kernel)) (by decide +kernel)
theorem kml_S_87 : Cond.methodLink R_S 87 y_F_seekLess ∈ W0 := W0_in (List.mem_of_getElem? (i := 499) (by decide +kernel)) (by decide +kernel)
theorem kim_F_seekLess : Cond.instanceMethod y_F_seekLess ∈ W0 := W0_in (List.mem_of_getElem? (i := 500) (by decide +kernel)) (by decide +kernel)
theorem ksl_F_seekLess : Cond.selects R_F y_F_seekLess y_F_seekLess ∈ W0 := W0_in (List.mem_of_getElem? (i := 501) (by decide +kernel)) (by decide +kernel)
theorem kcd_F_seekLess : Cond.code y_F_seekLess b_F_seekLess 5 none ∈ W0 := W0_in (List.mem_of_getElem? (i := 502) (by decide +kernel)) (by decide +kernel)
theorem kml_F_15 : Cond.methodLink R_F 15 y_N_rewritten ∈ W0 := W0_in (List.mem_of_getElem? (i := 503) (by decide +kernel)) (by decide +kernel)
theorem kim_N_rewritten : Cond.instanceMethod y_N_rewritten ∈ W0 := W0_in (List.mem_of_getElem? (i := 504) (by decide +kernel)) (by decide +kernel)
theorem ksl_N_rewritten : Cond.selects R_N y_N_rewritten y_N_rewritten ∈ W0 := W0_in (List.mem_of_getElem? (i := 505) (by decide +kernel)) (by decide +kernel)
theorem kcd_N_rewritten : Cond.code y_N_rewritten b_N_rewritten 1 (some .int) ∈ W0 := W0_in (List.mem_of_getElem? (i := 506) (by decide +kernel)) (by decide +kernel)
theorem kml_F_21 : Cond.methodLink R_F 21 y_F_fullest ∈ W0 := W0_in (List.mem_of_getElem? (i := 507) (by decide +kernel)) (by decide +kernel)
theorem kim_F_fullest : Cond.instanceMethod y_F_fullest ∈ W0 := W0_in (List.mem_of_getElem? (i := 509) (by decide +kernel)) (by decide +kernel)
theorem kcd_F_fullest : Cond.code y_F_fullest b_F_fullest 5 (some .int) ∈ W0 := W0_in (List.mem_of_getElem? (i := 510) (by decide +kernel)) (by decide +kernel)
theorem kml_F_25 : Cond.methodLink R_F 25 y_N_heldFor ∈ W0 := W0_in (List.mem_of_getElem? (i := 511) (by decide +kernel)) (by decide +kernel)
theorem kim_N_heldFor : Cond.instanceMethod y_N_heldFor ∈ W0 := W0_in (List.mem_of_getElem? (i := 512) (by decide +kernel)) (by decide +kernel)
theorem ksl_N_heldFor : Cond.selects R_N y_N_heldFor y_N_heldFor ∈ W0 := W0_in (List.mem_of_getElem? (i := 513) (by decide +kernel)) (by decide +kernel)
theorem kcd_N_heldFor : Cond.code y_N_heldFor b_N_heldFor 2 (some .int) ∈ W0 := W0_in (List.mem_of_getElem? (i := 514) (by decide +kernel)) (by decide +kernel)
theorem kml_F_28 : Cond.methodLink R_F 28 y_F_sift ∈ W0 := W0_in (List.mem_of_getElem? (i := 515) (by decide +kernel)) (by decide +kernel)
theorem kim_F_sift : Cond.instanceMethod y_F_sift ∈ W0 := W0_in (List.mem_of_getElem? (i := 517) (by decide +kernel)) (by decide +kernel)
theorem kcd_F_sift : Cond.code y_F_sift b_F_sift 7 none ∈ W0 := W0_in (List.mem_of_getElem? (i := 518) (by decide +kernel)) (by decide +kernel)
theorem kml_F_32 : Cond.methodLink R_F 32 y_N_levelOf ∈ W0 := W0_in (List.mem_of_getElem? (i := 519) (by decide +kernel)) (by decide +kernel)
theorem kml_F_35 : Cond.methodLink R_F 35 y_N_size ∈ W0 := W0_in (List.mem_of_getElem? (i := 520) (by decide +kernel)) (by decide +kernel)
theorem kim_N_size : Cond.instanceMethod y_N_size ∈ W0 := W0_in (List.mem_of_getElem? (i := 521) (by decide +kernel)) (by decide +kernel)
theorem ksl_N_size : Cond.selects R_N y_N_size y_N_size ∈ W0 := W0_in (List.mem_of_getElem? (i := 522) (by decide +kernel)) (by decide +kernel)
theorem kcd_N_size : Cond.code y_N_size b_N_size 1 (some .int) ∈ W0 := W0_in (List.mem_of_getElem? (i := 523) (by decide +kernel)) (by decide +kernel)
theorem kml_F_38 : Cond.methodLink R_F 38 y_N_swap ∈ W0 := W0_in (List.mem_of_getElem? (i := 524) (by decide +kernel)) (by decide +kernel)
theorem kim_N_swap : Cond.instanceMethod y_N_swap ∈ W0 := W0_in (List.mem_of_getElem? (i := 525) (by decide +kernel)) (by decide +kernel)
theorem ksl_N_swap : Cond.selects R_N y_N_swap y_N_swap ∈ W0 := W0_in (List.mem_of_getElem? (i := 526) (by decide +kernel)) (by decide +kernel)
theorem kcd_N_swap : Cond.code y_N_swap b_N_swap 7 none ∈ W0 := W0_in (List.mem_of_getElem? (i := 527) (by decide +kernel)) (by decide +kernel)
theorem kml_N_109 : Cond.methodLink R_N 109 y_N_heldFor ∈ W0 := W0_in (List.mem_of_getElem? (i := 528) (by decide +kernel)) (by decide +kernel)
theorem kml_N_112 : Cond.methodLink R_N 112 y_N_detach ∈ W0 := W0_in (List.mem_of_getElem? (i := 529) (by decide +kernel)) (by decide +kernel)
theorem kim_N_detach : Cond.instanceMethod y_N_detach ∈ W0 := W0_in (List.mem_of_getElem? (i := 531) (by decide +kernel)) (by decide +kernel)
theorem kcd_N_detach : Cond.code y_N_detach b_N_detach 10 (some .int) ∈ W0 := W0_in (List.mem_of_getElem? (i := 532) (by decide +kernel)) (by decide +kernel)
theorem kml_N_115 : Cond.methodLink R_N 115 y_N_rewrite ∈ W0 := W0_in (List.mem_of_getElem? (i := 533) (by decide +kernel)) (by decide +kernel)
theorem kim_N_rewrite : Cond.instanceMethod y_N_rewrite ∈ W0 := W0_in (List.mem_of_getElem? (i := 535) (by decide +kernel)) (by decide +kernel)
theorem kcd_N_rewrite : Cond.code y_N_rewrite b_N_rewrite 8 none ∈ W0 := W0_in (List.mem_of_getElem? (i := 536) (by decide +kernel)) (by decide +kernel)
theorem kml_N_118 : Cond.methodLink R_N 118 y_N_lowFor ∈ W0 := W0_in (List.mem_of_getElem? (i := 537) (by decide +kernel)) (by decide +kernel)
theorem kml_N_121 : Cond.methodLink R_N 121 y_N_make ∈ W0 := W0_in (List.mem_of_getElem? (i := 538) (by decide +kernel)) (by decide +kernel)
theorem kml_N_124 : Cond.methodLink R_N 124 y_N_highFor ∈ W0 := W0_in (List.mem_of_getElem? (i := 539) (by decide +kernel)) (by decide +kernel)
theorem kml_N_127 : Cond.methodLink R_N 127 y_N_release ∈ W0 := W0_in (List.mem_of_getElem? (i := 540) (by decide +kernel)) (by decide +kernel)
theorem kim_N_release : Cond.instanceMethod y_N_release ∈ W0 := W0_in (List.mem_of_getElem? (i := 542) (by decide +kernel)) (by decide +kernel)
theorem kcd_N_release : Cond.code y_N_release b_N_release 2 none ∈ W0 := W0_in (List.mem_of_getElem? (i := 543) (by decide +kernel)) (by decide +kernel)
theorem kml_N_130 : Cond.methodLink R_N 130 y_N_unlink ∈ W0 := W0_in (List.mem_of_getElem? (i := 544) (by decide +kernel)) (by decide +kernel)
theorem kim_N_unlink : Cond.instanceMethod y_N_unlink ∈ W0 := W0_in (List.mem_of_getElem? (i := 546) (by decide +kernel)) (by decide +kernel)
theorem kcd_N_unlink : Cond.code y_N_unlink b_N_unlink 6 none ∈ W0 := W0_in (List.mem_of_getElem? (i := 547) (by decide +kernel)) (by decide +kernel)
theorem kml_S_90 : Cond.methodLink R_S 90 y_F_turnRound ∈ W0 := W0_in (List.mem_of_getElem? (i := 548) (by decide +kernel)) (by decide +kernel)
theorem kim_F_turnRound : Cond.instanceMethod y_F_turnRound ∈ W0 := W0_in (List.mem_of_getElem? (i := 549) (by decide +kernel)) (by decide +kernel)
theorem ksl_F_turnRound : Cond.selects R_F y_F_turnRound y_F_turnRound ∈ W0 := W0_in (List.mem_of_getElem? (i := 550) (by decide +kernel)) (by decide +kernel)
theorem kcd_F_turnRound : Cond.code y_F_turnRound b_F_turnRound 3 none ∈ W0 := W0_in (List.mem_of_getElem? (i := 551) (by decide +kernel)) (by decide +kernel)
theorem kml_S_93 : Cond.methodLink R_S 93 y_S_slotsNotFalse ∈ W0 := W0_in (List.mem_of_getElem? (i := 552) (by decide +kernel)) (by decide +kernel)
theorem kim_S_slotsNotFalse : Cond.instanceMethod y_S_slotsNotFalse ∈ W0 := W0_in (List.mem_of_getElem? (i := 554) (by decide +kernel)) (by decide +kernel)
theorem kcd_S_slotsNotFalse : Cond.code y_S_slotsNotFalse b_S_slotsNotFalse 6 (some .int) ∈ W0 := W0_in (List.mem_of_getElem? (i := 555) (by decide +kernel)) (by decide +kernel)
theorem kcl_L_52 : Cond.classLink R_L 52 R_R ∈ W0 := W0_in (List.mem_of_getElem? (i := 556) (by decide +kernel)) (by decide +kernel)
theorem kis_R : Cond.instantiable R_R 4 ∈ W0 := W0_in (List.mem_of_getElem? (i := 557) (by decide +kernel)) (by decide +kernel)
theorem kml_L_54 : Cond.methodLink R_L 54 y_R_init ∈ W0 := W0_in (List.mem_of_getElem? (i := 558) (by decide +kernel)) (by decide +kernel)
theorem kim_R_init : Cond.instanceMethod y_R_init ∈ W0 := W0_in (List.mem_of_getElem? (i := 559) (by decide +kernel)) (by decide +kernel)
theorem kcd_R_init : Cond.code y_R_init b_R_init 1 none ∈ W0 := W0_in (List.mem_of_getElem? (i := 560) (by decide +kernel)) (by decide +kernel)
theorem kml_R_1 : Cond.methodLink R_R 1 objectInit ∈ W0 := W0_in (List.mem_of_getElem? (i := 561) (by decide +kernel)) (by decide +kernel)
theorem kco_R_7 : Cond.constant R_R 7 (131072) ∈ W0 := W0_in (List.mem_of_getElem? (i := 562) (by decide +kernel)) (by decide +kernel)
theorem kfl_R_20 : Cond.fieldLink R_R 20 "DiagramStoreModel" "failed" "I" ∈ W0 := W0_in (List.mem_of_getElem? (i := 563) (by decide +kernel)) (by decide +kernel)
theorem kfl_R_8 : Cond.fieldLink R_R 8 "DiagramStoreModel" "rows" "[Z" ∈ W0 := W0_in (List.mem_of_getElem? (i := 564) (by decide +kernel)) (by decide +kernel)
theorem kfl_R_14 : Cond.fieldLink R_R 14 "DiagramStoreModel" "made" "[Z" ∈ W0 := W0_in (List.mem_of_getElem? (i := 565) (by decide +kernel)) (by decide +kernel)
theorem kfl_R_17 : Cond.fieldLink R_R 17 "DiagramStoreModel" "both" "[Z" ∈ W0 := W0_in (List.mem_of_getElem? (i := 566) (by decide +kernel)) (by decide +kernel)
theorem kac_boolean : Cond.arrayClass .boolean ∈ W0 := W0_in (List.mem_of_getElem? (i := 576) (by decide +kernel)) (by decide +kernel)
theorem kml_L_61 : Cond.methodLink R_L 61 y_R_thrown ∈ W0 := W0_in (List.mem_of_getElem? (i := 577) (by decide +kernel)) (by decide +kernel)
theorem kim_R_thrown : Cond.instanceMethod y_R_thrown ∈ W0 := W0_in (List.mem_of_getElem? (i := 578) (by decide +kernel)) (by decide +kernel)
theorem ksl_R_thrown : Cond.selects R_R y_R_thrown y_R_thrown ∈ W0 := W0_in (List.mem_of_getElem? (i := 579) (by decide +kernel)) (by decide +kernel)
theorem kcd_R_thrown : Cond.code y_R_thrown b_R_thrown 1 (some .int) ∈ W0 := W0_in (List.mem_of_getElem? (i := 580) (by decide +kernel)) (by decide +kernel)
theorem kml_L_60 : Cond.methodLink R_L 60 y_R_constant ∈ W0 := W0_in (List.mem_of_getElem? (i := 581) (by decide +kernel)) (by decide +kernel)
theorem kim_R_constant : Cond.instanceMethod y_R_constant ∈ W0 := W0_in (List.mem_of_getElem? (i := 582) (by decide +kernel)) (by decide +kernel)
theorem ksl_R_constant : Cond.selects R_R y_R_constant y_R_constant ∈ W0 := W0_in (List.mem_of_getElem? (i := 583) (by decide +kernel)) (by decide +kernel)
theorem kcd_R_constant : Cond.code y_R_constant b_R_constant 4 none ∈ W0 := W0_in (List.mem_of_getElem? (i := 584) (by decide +kernel)) (by decide +kernel)
theorem kml_R_24 : Cond.methodLink R_R 24 y_R_out ∈ W0 := W0_in (List.mem_of_getElem? (i := 585) (by decide +kernel)) (by decide +kernel)
theorem kim_R_out : Cond.instanceMethod y_R_out ∈ W0 := W0_in (List.mem_of_getElem? (i := 587) (by decide +kernel)) (by decide +kernel)
theorem kcd_R_out : Cond.code y_R_out b_R_out 3 (some .boolean) ∈ W0 := W0_in (List.mem_of_getElem? (i := 588) (by decide +kernel)) (by decide +kernel)
theorem kml_L_68 : Cond.methodLink R_L 68 y_R_variable ∈ W0 := W0_in (List.mem_of_getElem? (i := 589) (by decide +kernel)) (by decide +kernel)
theorem kim_R_variable : Cond.instanceMethod y_R_variable ∈ W0 := W0_in (List.mem_of_getElem? (i := 590) (by decide +kernel)) (by decide +kernel)
theorem ksl_R_variable : Cond.selects R_R y_R_variable y_R_variable ∈ W0 := W0_in (List.mem_of_getElem? (i := 591) (by decide +kernel)) (by decide +kernel)
theorem kcd_R_variable : Cond.code y_R_variable b_R_variable 4 none ∈ W0 := W0_in (List.mem_of_getElem? (i := 592) (by decide +kernel)) (by decide +kernel)
theorem kml_L_72 : Cond.methodLink R_L 72 y_R_choose ∈ W0 := W0_in (List.mem_of_getElem? (i := 593) (by decide +kernel)) (by decide +kernel)
theorem kim_R_choose : Cond.instanceMethod y_R_choose ∈ W0 := W0_in (List.mem_of_getElem? (i := 594) (by decide +kernel)) (by decide +kernel)
theorem ksl_R_choose : Cond.selects R_R y_R_choose y_R_choose ∈ W0 := W0_in (List.mem_of_getElem? (i := 595) (by decide +kernel)) (by decide +kernel)
theorem kcd_R_choose : Cond.code y_R_choose b_R_choose 6 (some .boolean) ∈ W0 := W0_in (List.mem_of_getElem? (i := 596) (by decide +kernel)) (by decide +kernel)
theorem kml_R_28 : Cond.methodLink R_R 28 y_R_fail ∈ W0 := W0_in (List.mem_of_getElem? (i := 597) (by decide +kernel)) (by decide +kernel)
theorem kim_R_fail : Cond.instanceMethod y_R_fail ∈ W0 := W0_in (List.mem_of_getElem? (i := 599) (by decide +kernel)) (by decide +kernel)
theorem kcd_R_fail : Cond.code y_R_fail b_R_fail 2 (some .boolean) ∈ W0 := W0_in (List.mem_of_getElem? (i := 600) (by decide +kernel)) (by decide +kernel)
theorem kml_R_32 : Cond.methodLink R_R 32 y_R_at ∈ W0 := W0_in (List.mem_of_getElem? (i := 601) (by decide +kernel)) (by decide +kernel)
theorem kim_R_at : Cond.instanceMethod y_R_at ∈ W0 := W0_in (List.mem_of_getElem? (i := 603) (by decide +kernel)) (by decide +kernel)
theorem kcd_R_at : Cond.code y_R_at b_R_at 3 (some .boolean) ∈ W0 := W0_in (List.mem_of_getElem? (i := 604) (by decide +kernel)) (by decide +kernel)
theorem kml_R_35 : Cond.methodLink R_R 35 y_R_keep ∈ W0 := W0_in (List.mem_of_getElem? (i := 605) (by decide +kernel)) (by decide +kernel)
theorem kim_R_keep : Cond.instanceMethod y_R_keep ∈ W0 := W0_in (List.mem_of_getElem? (i := 607) (by decide +kernel)) (by decide +kernel)
theorem kcd_R_keep : Cond.code y_R_keep b_R_keep 4 (some .boolean) ∈ W0 := W0_in (List.mem_of_getElem? (i := 608) (by decide +kernel)) (by decide +kernel)
theorem kml_L_75 : Cond.methodLink R_L 75 y_R_join ∈ W0 := W0_in (List.mem_of_getElem? (i := 609) (by decide +kernel)) (by decide +kernel)
theorem kim_R_join : Cond.instanceMethod y_R_join ∈ W0 := W0_in (List.mem_of_getElem? (i := 610) (by decide +kernel)) (by decide +kernel)
theorem ksl_R_join : Cond.selects R_R y_R_join y_R_join ∈ W0 := W0_in (List.mem_of_getElem? (i := 611) (by decide +kernel)) (by decide +kernel)
theorem kcd_R_join : Cond.code y_R_join b_R_join 8 (some .boolean) ∈ W0 := W0_in (List.mem_of_getElem? (i := 612) (by decide +kernel)) (by decide +kernel)
theorem kml_L_78 : Cond.methodLink R_L 78 y_R_some ∈ W0 := W0_in (List.mem_of_getElem? (i := 613) (by decide +kernel)) (by decide +kernel)
theorem kim_R_some : Cond.instanceMethod y_R_some ∈ W0 := W0_in (List.mem_of_getElem? (i := 614) (by decide +kernel)) (by decide +kernel)
theorem ksl_R_some : Cond.selects R_R y_R_some y_R_some ∈ W0 := W0_in (List.mem_of_getElem? (i := 615) (by decide +kernel)) (by decide +kernel)
theorem kcd_R_some : Cond.code y_R_some b_R_some 6 (some .boolean) ∈ W0 := W0_in (List.mem_of_getElem? (i := 616) (by decide +kernel)) (by decide +kernel)
theorem kml_L_82 : Cond.methodLink R_L 82 y_R_turn ∈ W0 := W0_in (List.mem_of_getElem? (i := 617) (by decide +kernel)) (by decide +kernel)
theorem kim_R_turn : Cond.instanceMethod y_R_turn ∈ W0 := W0_in (List.mem_of_getElem? (i := 618) (by decide +kernel)) (by decide +kernel)
theorem ksl_R_turn : Cond.selects R_R y_R_turn y_R_turn ∈ W0 := W0_in (List.mem_of_getElem? (i := 619) (by decide +kernel)) (by decide +kernel)
theorem kcd_R_turn : Cond.code y_R_turn b_R_turn 4 (some .boolean) ∈ W0 := W0_in (List.mem_of_getElem? (i := 620) (by decide +kernel)) (by decide +kernel)
theorem kml_L_85 : Cond.methodLink R_L 85 y_R_value ∈ W0 := W0_in (List.mem_of_getElem? (i := 621) (by decide +kernel)) (by decide +kernel)
theorem kim_R_value : Cond.instanceMethod y_R_value ∈ W0 := W0_in (List.mem_of_getElem? (i := 622) (by decide +kernel)) (by decide +kernel)
theorem ksl_R_value : Cond.selects R_R y_R_value y_R_value ∈ W0 := W0_in (List.mem_of_getElem? (i := 623) (by decide +kernel)) (by decide +kernel)
theorem kcd_R_value : Cond.code y_R_value b_R_value 3 (some .boolean) ∈ W0 := W0_in (List.mem_of_getElem? (i := 624) (by decide +kernel)) (by decide +kernel)
theorem kml_L_88 : Cond.methodLink R_L 88 y_R_same ∈ W0 := W0_in (List.mem_of_getElem? (i := 625) (by decide +kernel)) (by decide +kernel)
theorem kim_R_same : Cond.instanceMethod y_R_same ∈ W0 := W0_in (List.mem_of_getElem? (i := 626) (by decide +kernel)) (by decide +kernel)
theorem ksl_R_same : Cond.selects R_R y_R_same y_R_same ∈ W0 := W0_in (List.mem_of_getElem? (i := 627) (by decide +kernel)) (by decide +kernel)
theorem kcd_R_same : Cond.code y_R_same b_R_same 4 (some .boolean) ∈ W0 := W0_in (List.mem_of_getElem? (i := 628) (by decide +kernel)) (by decide +kernel)
theorem kml_L_92 : Cond.methodLink R_L 92 y_R_count ∈ W0 := W0_in (List.mem_of_getElem? (i := 629) (by decide +kernel)) (by decide +kernel)
theorem kim_R_count : Cond.instanceMethod y_R_count ∈ W0 := W0_in (List.mem_of_getElem? (i := 630) (by decide +kernel)) (by decide +kernel)
theorem ksl_R_count : Cond.selects R_R y_R_count y_R_count ∈ W0 := W0_in (List.mem_of_getElem? (i := 631) (by decide +kernel)) (by decide +kernel)
theorem kcd_R_count : Cond.code y_R_count b_R_count 4 (some .int) ∈ W0 := W0_in (List.mem_of_getElem? (i := 632) (by decide +kernel)) (by decide +kernel)
theorem kml_R_38 : Cond.methodLink R_R 38 y_R_hangs ∈ W0 := W0_in (List.mem_of_getElem? (i := 633) (by decide +kernel)) (by decide +kernel)
theorem kim_R_hangs : Cond.instanceMethod y_R_hangs ∈ W0 := W0_in (List.mem_of_getElem? (i := 635) (by decide +kernel)) (by decide +kernel)
theorem kcd_R_hangs : Cond.code y_R_hangs b_R_hangs 5 (some .int) ∈ W0 := W0_in (List.mem_of_getElem? (i := 636) (by decide +kernel)) (by decide +kernel)
theorem kml_L_95 : Cond.methodLink R_L 95 y_R_support ∈ W0 := W0_in (List.mem_of_getElem? (i := 637) (by decide +kernel)) (by decide +kernel)
theorem kim_R_support : Cond.instanceMethod y_R_support ∈ W0 := W0_in (List.mem_of_getElem? (i := 638) (by decide +kernel)) (by decide +kernel)
theorem ksl_R_support : Cond.selects R_R y_R_support y_R_support ∈ W0 := W0_in (List.mem_of_getElem? (i := 639) (by decide +kernel)) (by decide +kernel)
theorem kcd_R_support : Cond.code y_R_support b_R_support 2 (some .int) ∈ W0 := W0_in (List.mem_of_getElem? (i := 640) (by decide +kernel)) (by decide +kernel)
theorem kml_L_98 : Cond.methodLink R_L 98 y_R_tidy ∈ W0 := W0_in (List.mem_of_getElem? (i := 641) (by decide +kernel)) (by decide +kernel)
theorem kim_R_tidy : Cond.instanceMethod y_R_tidy ∈ W0 := W0_in (List.mem_of_getElem? (i := 642) (by decide +kernel)) (by decide +kernel)
theorem ksl_R_tidy : Cond.selects R_R y_R_tidy y_R_tidy ∈ W0 := W0_in (List.mem_of_getElem? (i := 643) (by decide +kernel)) (by decide +kernel)
theorem kcd_R_tidy : Cond.code y_R_tidy b_R_tidy 6 (some .int) ∈ W0 := W0_in (List.mem_of_getElem? (i := 644) (by decide +kernel)) (by decide +kernel)
theorem kml_L_102 : Cond.methodLink R_L 102 y_R_wrong ∈ W0 := W0_in (List.mem_of_getElem? (i := 645) (by decide +kernel)) (by decide +kernel)
theorem kim_R_wrong : Cond.instanceMethod y_R_wrong ∈ W0 := W0_in (List.mem_of_getElem? (i := 646) (by decide +kernel)) (by decide +kernel)
theorem ksl_R_wrong : Cond.selects R_R y_R_wrong y_R_wrong ∈ W0 := W0_in (List.mem_of_getElem? (i := 647) (by decide +kernel)) (by decide +kernel)
theorem kcd_R_wrong : Cond.code y_R_wrong b_R_wrong 1 (some .int) ∈ W0 := W0_in (List.mem_of_getElem? (i := 648) (by decide +kernel)) (by decide +kernel)
theorem kac_long : Cond.arrayClass .long ∈ W0 := W0_in (List.mem_of_getElem? (i := 649) (by decide +kernel)) (by decide +kernel)
theorem in_S : ∀ w ∈ u_ws R_S T_S 4, w ∈ W0 := by decide +kernel
theorem in_N : ∀ w ∈ u_ws R_N T_N 11, w ∈ W0 := by decide +kernel
theorem in_A : ∀ w ∈ u_ws R_A T_A 2, w ∈ W0 := by decide +kernel
theorem in_M : ∀ w ∈ u_ws R_M T_M 2, w ∈ W0 := by decide +kernel
theorem in_F : ∀ w ∈ u_ws R_F T_F 1, w ∈ W0 := by decide +kernel
theorem in_R : ∀ w ∈ u_ws R_R T_R 4, w ∈ W0 := by decide +kernel
end
section
/-! decode rows, written by program -/
theorem d_S_init_0 : decode b_S_init 0 = .ok (.aload_n 0, 1) := by decide +kernel
theorem d_S_init_1 : decode b_S_init 1 = .ok (.invokespecial 3, 3) := by decide +kernel
theorem d_S_init_4 : decode b_S_init 4 = .ok (.aload_n 0, 1) := by decide +kernel
theorem d_S_init_5 : decode b_S_init 5 = .ok (.bipush 32, 2) := by decide +kernel
theorem d_S_init_7 : decode b_S_init 7 = .ok (.newarray .int, 2) := by decide +kernel
theorem d_S_init_9 : decode b_S_init 9 = .ok (.putfield 9, 3) := by decide +kernel
theorem d_S_init_12 : decode b_S_init 12 = .ok (.aload_n 0, 1) := by decide +kernel
theorem d_S_init_13 : decode b_S_init 13 = .ok (.getfield 9, 3) := by decide +kernel
theorem d_S_init_16 : decode b_S_init 16 = .ok (.iconst 0, 1) := by decide +kernel
theorem d_S_init_17 : decode b_S_init 17 = .ok (.invokestatic 13, 3) := by decide +kernel
theorem d_S_init_20 : decode b_S_init 20 = .ok (.aload_n 0, 1) := by decide +kernel
theorem d_S_init_21 : decode b_S_init 21 = .ok (.new 19, 3) := by decide +kernel
theorem d_S_init_24 : decode b_S_init 24 = .ok (.dup, 1) := by decide +kernel
theorem d_S_init_25 : decode b_S_init 25 = .ok (.invokespecial 21, 3) := by decide +kernel
theorem d_S_init_28 : decode b_S_init 28 = .ok (.putfield 22, 3) := by decide +kernel
theorem d_S_init_31 : decode b_S_init 31 = .ok (.aload_n 0, 1) := by decide +kernel
theorem d_S_init_32 : decode b_S_init 32 = .ok (.new 26, 3) := by decide +kernel
theorem d_S_init_35 : decode b_S_init 35 = .ok (.dup, 1) := by decide +kernel
theorem d_S_init_36 : decode b_S_init 36 = .ok (.aload_n 0, 1) := by decide +kernel
theorem d_S_init_37 : decode b_S_init 37 = .ok (.getfield 22, 3) := by decide +kernel
theorem d_S_init_40 : decode b_S_init 40 = .ok (.invokespecial 28, 3) := by decide +kernel
theorem d_S_init_43 : decode b_S_init 43 = .ok (.putfield 31, 3) := by decide +kernel
theorem d_S_init_46 : decode b_S_init 46 = .ok (.aload_n 0, 1) := by decide +kernel
theorem d_S_init_47 : decode b_S_init 47 = .ok (.new 35, 3) := by decide +kernel
theorem d_S_init_50 : decode b_S_init 50 = .ok (.dup, 1) := by decide +kernel
theorem d_S_init_51 : decode b_S_init 51 = .ok (.aload_n 0, 1) := by decide +kernel
theorem d_S_init_52 : decode b_S_init 52 = .ok (.getfield 22, 3) := by decide +kernel
theorem d_S_init_55 : decode b_S_init 55 = .ok (.invokespecial 37, 3) := by decide +kernel
theorem d_S_init_58 : decode b_S_init 58 = .ok (.putfield 38, 3) := by decide +kernel
theorem d_S_init_61 : decode b_S_init 61 = .ok (.return_, 1) := by decide +kernel
theorem d_JA_fill_0 : decode b_JA_fill 0 = .ok (.iconst 0, 1) := by decide +kernel
theorem d_JA_fill_1 : decode b_JA_fill 1 = .ok (.istore_n 2, 1) := by decide +kernel
theorem d_JA_fill_2 : decode b_JA_fill 2 = .ok (.aload_n 0, 1) := by decide +kernel
theorem d_JA_fill_3 : decode b_JA_fill 3 = .ok (.arraylength, 1) := by decide +kernel
theorem d_JA_fill_4 : decode b_JA_fill 4 = .ok (.istore_n 3, 1) := by decide +kernel
theorem d_JA_fill_5 : decode b_JA_fill 5 = .ok (.iload_n 2, 1) := by decide +kernel
theorem d_JA_fill_6 : decode b_JA_fill 6 = .ok (.iload_n 3, 1) := by decide +kernel
theorem d_JA_fill_7 : decode b_JA_fill 7 = .ok (.if_icmp .ge 13, 3) := by decide +kernel
theorem d_JA_fill_10 : decode b_JA_fill 10 = .ok (.aload_n 0, 1) := by decide +kernel
theorem d_JA_fill_11 : decode b_JA_fill 11 = .ok (.iload_n 2, 1) := by decide +kernel
theorem d_JA_fill_12 : decode b_JA_fill 12 = .ok (.iload_n 1, 1) := by decide +kernel
theorem d_JA_fill_13 : decode b_JA_fill 13 = .ok (.iastore, 1) := by decide +kernel
theorem d_JA_fill_14 : decode b_JA_fill 14 = .ok (.iinc 2 1, 3) := by decide +kernel
theorem d_JA_fill_17 : decode b_JA_fill 17 = .ok (.goto (-12), 3) := by decide +kernel
theorem d_JA_fill_20 : decode b_JA_fill 20 = .ok (.return_, 1) := by decide +kernel
theorem d_N_init_0 : decode b_N_init 0 = .ok (.aload_n 0, 1) := by decide +kernel
theorem d_N_init_1 : decode b_N_init 1 = .ok (.invokespecial 3, 3) := by decide +kernel
theorem d_N_init_4 : decode b_N_init 4 = .ok (.aload_n 0, 1) := by decide +kernel
theorem d_N_init_5 : decode b_N_init 5 = .ok (.sipush 5120, 3) := by decide +kernel
theorem d_N_init_8 : decode b_N_init 8 = .ok (.newarray .int, 2) := by decide +kernel
theorem d_N_init_10 : decode b_N_init 10 = .ok (.putfield 11, 3) := by decide +kernel
theorem d_N_init_13 : decode b_N_init 13 = .ok (.aload_n 0, 1) := by decide +kernel
theorem d_N_init_14 : decode b_N_init 14 = .ok (.sipush 1024, 3) := by decide +kernel
theorem d_N_init_17 : decode b_N_init 17 = .ok (.putfield 15, 3) := by decide +kernel
theorem d_N_init_20 : decode b_N_init 20 = .ok (.aload_n 0, 1) := by decide +kernel
theorem d_N_init_21 : decode b_N_init 21 = .ok (.getfield 11, 3) := by decide +kernel
theorem d_N_init_24 : decode b_N_init 24 = .ok (.iconst 0, 1) := by decide +kernel
theorem d_N_init_25 : decode b_N_init 25 = .ok (.bipush 12, 2) := by decide +kernel
theorem d_N_init_27 : decode b_N_init 27 = .ok (.iastore, 1) := by decide +kernel
theorem d_N_init_28 : decode b_N_init 28 = .ok (.aload_n 0, 1) := by decide +kernel
theorem d_N_init_29 : decode b_N_init 29 = .ok (.getfield 11, 3) := by decide +kernel
theorem d_N_init_32 : decode b_N_init 32 = .ok (.iconst 5, 1) := by decide +kernel
theorem d_N_init_33 : decode b_N_init 33 = .ok (.bipush 12, 2) := by decide +kernel
theorem d_N_init_35 : decode b_N_init 35 = .ok (.iastore, 1) := by decide +kernel
theorem d_N_init_36 : decode b_N_init 36 = .ok (.aload_n 0, 1) := by decide +kernel
theorem d_N_init_37 : decode b_N_init 37 = .ok (.iconst 2, 1) := by decide +kernel
theorem d_N_init_38 : decode b_N_init 38 = .ok (.putfield 19, 3) := by decide +kernel
theorem d_N_init_41 : decode b_N_init 41 = .ok (.aload_n 0, 1) := by decide +kernel
theorem d_N_init_42 : decode b_N_init 42 = .ok (.iconst 0, 1) := by decide +kernel
theorem d_N_init_43 : decode b_N_init 43 = .ok (.putfield 22, 3) := by decide +kernel
theorem d_N_init_46 : decode b_N_init 46 = .ok (.aload_n 0, 1) := by decide +kernel
theorem d_N_init_47 : decode b_N_init 47 = .ok (.sipush 768, 3) := by decide +kernel
theorem d_N_init_50 : decode b_N_init 50 = .ok (.newarray .int, 2) := by decide +kernel
theorem d_N_init_52 : decode b_N_init 52 = .ok (.putfield 25, 3) := by decide +kernel
theorem d_N_init_55 : decode b_N_init 55 = .ok (.aload_n 0, 1) := by decide +kernel
theorem d_N_init_56 : decode b_N_init 56 = .ok (.bipush 12, 2) := by decide +kernel
theorem d_N_init_58 : decode b_N_init 58 = .ok (.newarray .int, 2) := by decide +kernel
theorem d_N_init_60 : decode b_N_init 60 = .ok (.putfield 28, 3) := by decide +kernel
theorem d_N_init_63 : decode b_N_init 63 = .ok (.aload_n 0, 1) := by decide +kernel
theorem d_N_init_64 : decode b_N_init 64 = .ok (.bipush 13, 2) := by decide +kernel
theorem d_N_init_66 : decode b_N_init 66 = .ok (.newarray .int, 2) := by decide +kernel
theorem d_N_init_68 : decode b_N_init 68 = .ok (.putfield 31, 3) := by decide +kernel
theorem d_N_init_71 : decode b_N_init 71 = .ok (.aload_n 0, 1) := by decide +kernel
theorem d_N_init_72 : decode b_N_init 72 = .ok (.bipush 13, 2) := by decide +kernel
theorem d_N_init_74 : decode b_N_init 74 = .ok (.newarray .int, 2) := by decide +kernel
theorem d_N_init_76 : decode b_N_init 76 = .ok (.putfield 34, 3) := by decide +kernel
theorem d_N_init_79 : decode b_N_init 79 = .ok (.iconst 0, 1) := by decide +kernel
theorem d_N_init_80 : decode b_N_init 80 = .ok (.istore_n 1, 1) := by decide +kernel
theorem d_N_init_81 : decode b_N_init 81 = .ok (.iload_n 1, 1) := by decide +kernel
theorem d_N_init_82 : decode b_N_init 82 = .ok (.bipush 12, 2) := by decide +kernel
theorem d_N_init_84 : decode b_N_init 84 = .ok (.if_icmp .gt 23, 3) := by decide +kernel
theorem d_N_init_87 : decode b_N_init 87 = .ok (.aload_n 0, 1) := by decide +kernel
theorem d_N_init_88 : decode b_N_init 88 = .ok (.getfield 31, 3) := by decide +kernel
theorem d_N_init_91 : decode b_N_init 91 = .ok (.iload_n 1, 1) := by decide +kernel
theorem d_N_init_92 : decode b_N_init 92 = .ok (.iload_n 1, 1) := by decide +kernel
theorem d_N_init_93 : decode b_N_init 93 = .ok (.iastore, 1) := by decide +kernel
theorem d_N_init_94 : decode b_N_init 94 = .ok (.aload_n 0, 1) := by decide +kernel
theorem d_N_init_95 : decode b_N_init 95 = .ok (.getfield 34, 3) := by decide +kernel
theorem d_N_init_98 : decode b_N_init 98 = .ok (.iload_n 1, 1) := by decide +kernel
theorem d_N_init_99 : decode b_N_init 99 = .ok (.iload_n 1, 1) := by decide +kernel
theorem d_N_init_100 : decode b_N_init 100 = .ok (.iastore, 1) := by decide +kernel
theorem d_N_init_101 : decode b_N_init 101 = .ok (.iinc 1 1, 3) := by decide +kernel
theorem d_N_init_104 : decode b_N_init 104 = .ok (.goto (-23), 3) := by decide +kernel
theorem d_N_init_107 : decode b_N_init 107 = .ok (.aload_n 0, 1) := by decide +kernel
theorem d_N_init_108 : decode b_N_init 108 = .ok (.sipush 1024, 3) := by decide +kernel
theorem d_N_init_111 : decode b_N_init 111 = .ok (.putfield 37, 3) := by decide +kernel
theorem d_N_init_114 : decode b_N_init 114 = .ok (.return_, 1) := by decide +kernel
theorem d_A_init_0 : decode b_A_init 0 = .ok (.aload_n 0, 1) := by decide +kernel
theorem d_A_init_1 : decode b_A_init 1 = .ok (.invokespecial 3, 3) := by decide +kernel
theorem d_A_init_4 : decode b_A_init 4 = .ok (.aload_n 0, 1) := by decide +kernel
theorem d_A_init_5 : decode b_A_init 5 = .ok (.aload_n 1, 1) := by decide +kernel
theorem d_A_init_6 : decode b_A_init 6 = .ok (.putfield 9, 3) := by decide +kernel
theorem d_A_init_9 : decode b_A_init 9 = .ok (.aload_n 0, 1) := by decide +kernel
theorem d_A_init_10 : decode b_A_init 10 = .ok (.new 15, 3) := by decide +kernel
theorem d_A_init_13 : decode b_A_init 13 = .ok (.dup, 1) := by decide +kernel
theorem d_A_init_14 : decode b_A_init 14 = .ok (.invokespecial 17, 3) := by decide +kernel
theorem d_A_init_17 : decode b_A_init 17 = .ok (.putfield 18, 3) := by decide +kernel
theorem d_A_init_20 : decode b_A_init 20 = .ok (.return_, 1) := by decide +kernel
theorem d_M_init_0 : decode b_M_init 0 = .ok (.aload_n 0, 1) := by decide +kernel
theorem d_M_init_1 : decode b_M_init 1 = .ok (.invokespecial 3, 3) := by decide +kernel
theorem d_M_init_4 : decode b_M_init 4 = .ok (.aload_n 0, 1) := by decide +kernel
theorem d_M_init_5 : decode b_M_init 5 = .ok (.sipush 5120, 3) := by decide +kernel
theorem d_M_init_8 : decode b_M_init 8 = .ok (.newarray .int, 2) := by decide +kernel
theorem d_M_init_10 : decode b_M_init 10 = .ok (.putfield 11, 3) := by decide +kernel
theorem d_M_init_13 : decode b_M_init 13 = .ok (.aload_n 0, 1) := by decide +kernel
theorem d_M_init_14 : decode b_M_init 14 = .ok (.iconst 1, 1) := by decide +kernel
theorem d_M_init_15 : decode b_M_init 15 = .ok (.putfield 15, 3) := by decide +kernel
theorem d_M_init_18 : decode b_M_init 18 = .ok (.return_, 1) := by decide +kernel
theorem d_F_init_0 : decode b_F_init 0 = .ok (.aload_n 0, 1) := by decide +kernel
theorem d_F_init_1 : decode b_F_init 1 = .ok (.invokespecial 3, 3) := by decide +kernel
theorem d_F_init_4 : decode b_F_init 4 = .ok (.aload_n 0, 1) := by decide +kernel
theorem d_F_init_5 : decode b_F_init 5 = .ok (.aload_n 1, 1) := by decide +kernel
theorem d_F_init_6 : decode b_F_init 6 = .ok (.putfield 9, 3) := by decide +kernel
theorem d_F_init_9 : decode b_F_init 9 = .ok (.return_, 1) := by decide +kernel
theorem d_S_wrong_0 : decode b_S_wrong 0 = .ok (.aload_n 0, 1) := by decide +kernel
theorem d_S_wrong_1 : decode b_S_wrong 1 = .ok (.getfield 22, 3) := by decide +kernel
theorem d_S_wrong_4 : decode b_S_wrong 4 = .ok (.invokevirtual 97, 3) := by decide +kernel
theorem d_S_wrong_7 : decode b_S_wrong 7 = .ok (.ireturn, 1) := by decide +kernel
theorem d_N_faults_0 : decode b_N_faults 0 = .ok (.iconst 0, 1) := by decide +kernel
theorem d_N_faults_1 : decode b_N_faults 1 = .ok (.istore_n 1, 1) := by decide +kernel
theorem d_N_faults_2 : decode b_N_faults 2 = .ok (.iconst 0, 1) := by decide +kernel
theorem d_N_faults_3 : decode b_N_faults 3 = .ok (.istore_n 2, 1) := by decide +kernel
theorem d_N_faults_4 : decode b_N_faults 4 = .ok (.iload_n 2, 1) := by decide +kernel
theorem d_N_faults_5 : decode b_N_faults 5 = .ok (.aload_n 0, 1) := by decide +kernel
theorem d_N_faults_6 : decode b_N_faults 6 = .ok (.getfield 25, 3) := by decide +kernel
theorem d_N_faults_9 : decode b_N_faults 9 = .ok (.arraylength, 1) := by decide +kernel
theorem d_N_faults_10 : decode b_N_faults 10 = .ok (.if_icmp .ge 64, 3) := by decide +kernel
theorem d_N_faults_13 : decode b_N_faults 13 = .ok (.aload_n 0, 1) := by decide +kernel
theorem d_N_faults_14 : decode b_N_faults 14 = .ok (.getfield 25, 3) := by decide +kernel
theorem d_N_faults_17 : decode b_N_faults 17 = .ok (.iload_n 2, 1) := by decide +kernel
theorem d_N_faults_18 : decode b_N_faults 18 = .ok (.iaload, 1) := by decide +kernel
theorem d_N_faults_19 : decode b_N_faults 19 = .ok (.istore_n 3, 1) := by decide +kernel
theorem d_N_faults_20 : decode b_N_faults 20 = .ok (.iconst 0, 1) := by decide +kernel
theorem d_N_faults_21 : decode b_N_faults 21 = .ok (.istore 4, 2) := by decide +kernel
theorem d_N_faults_23 : decode b_N_faults 23 = .ok (.iload 4, 2) := by decide +kernel
theorem d_N_faults_25 : decode b_N_faults 25 = .ok (.sipush 24800, 3) := by decide +kernel
theorem d_N_faults_28 : decode b_N_faults 28 = .ok (.if_icmp .ge 40, 3) := by decide +kernel
theorem d_N_faults_31 : decode b_N_faults 31 = .ok (.iload_n 3, 1) := by decide +kernel
theorem d_N_faults_32 : decode b_N_faults 32 = .ok (.ifCond .eq 36, 3) := by decide +kernel
theorem d_N_faults_35 : decode b_N_faults 35 = .ok (.aload_n 0, 1) := by decide +kernel
theorem d_N_faults_36 : decode b_N_faults 36 = .ok (.iload_n 3, 1) := by decide +kernel
theorem d_N_faults_37 : decode b_N_faults 37 = .ok (.iload_n 2, 1) := by decide +kernel
theorem d_N_faults_38 : decode b_N_faults 38 = .ok (.invokevirtual 133, 3) := by decide +kernel
theorem d_N_faults_41 : decode b_N_faults 41 = .ok (.ifCond .ne 11, 3) := by decide +kernel
theorem d_N_faults_44 : decode b_N_faults 44 = .ok (.aload_n 0, 1) := by decide +kernel
theorem d_N_faults_45 : decode b_N_faults 45 = .ok (.iload_n 3, 1) := by decide +kernel
theorem d_N_faults_46 : decode b_N_faults 46 = .ok (.invokevirtual 137, 3) := by decide +kernel
theorem d_N_faults_49 : decode b_N_faults 49 = .ok (.ifCond .eq 6, 3) := by decide +kernel
theorem d_N_faults_52 : decode b_N_faults 52 = .ok (.iinc 1 1, 3) := by decide +kernel
theorem d_N_faults_55 : decode b_N_faults 55 = .ok (.aload_n 0, 1) := by decide +kernel
theorem d_N_faults_56 : decode b_N_faults 56 = .ok (.iload_n 3, 1) := by decide +kernel
theorem d_N_faults_57 : decode b_N_faults 57 = .ok (.iconst 3, 1) := by decide +kernel
theorem d_N_faults_58 : decode b_N_faults 58 = .ok (.invokevirtual 46, 3) := by decide +kernel
theorem d_N_faults_61 : decode b_N_faults 61 = .ok (.istore_n 3, 1) := by decide +kernel
theorem d_N_faults_62 : decode b_N_faults 62 = .ok (.iinc 4 1, 3) := by decide +kernel
theorem d_N_faults_65 : decode b_N_faults 65 = .ok (.goto (-42), 3) := by decide +kernel
theorem d_N_faults_68 : decode b_N_faults 68 = .ok (.iinc 2 1, 3) := by decide +kernel
theorem d_N_faults_71 : decode b_N_faults 71 = .ok (.goto (-67), 3) := by decide +kernel
theorem d_N_faults_74 : decode b_N_faults 74 = .ok (.iload_n 1, 1) := by decide +kernel
theorem d_N_faults_75 : decode b_N_faults 75 = .ok (.ireturn, 1) := by decide +kernel
theorem d_N_isMisplaced_0 : decode b_N_isMisplaced 0 = .ok (.aload_n 0, 1) := by decide +kernel
theorem d_N_isMisplaced_1 : decode b_N_isMisplaced 1 = .ok (.iload_n 1, 1) := by decide +kernel
theorem d_N_isMisplaced_2 : decode b_N_isMisplaced 2 = .ok (.iconst 0, 1) := by decide +kernel
theorem d_N_isMisplaced_3 : decode b_N_isMisplaced 3 = .ok (.invokevirtual 46, 3) := by decide +kernel
theorem d_N_isMisplaced_6 : decode b_N_isMisplaced 6 = .ok (.istore_n 3, 1) := by decide +kernel
theorem d_N_isMisplaced_7 : decode b_N_isMisplaced 7 = .ok (.aload_n 0, 1) := by decide +kernel
theorem d_N_isMisplaced_8 : decode b_N_isMisplaced 8 = .ok (.iload_n 1, 1) := by decide +kernel
theorem d_N_isMisplaced_9 : decode b_N_isMisplaced 9 = .ok (.iconst 1, 1) := by decide +kernel
theorem d_N_isMisplaced_10 : decode b_N_isMisplaced 10 = .ok (.invokevirtual 46, 3) := by decide +kernel
theorem d_N_isMisplaced_13 : decode b_N_isMisplaced 13 = .ok (.istore 4, 2) := by decide +kernel
theorem d_N_isMisplaced_15 : decode b_N_isMisplaced 15 = .ok (.aload_n 0, 1) := by decide +kernel
theorem d_N_isMisplaced_16 : decode b_N_isMisplaced 16 = .ok (.iload_n 1, 1) := by decide +kernel
theorem d_N_isMisplaced_17 : decode b_N_isMisplaced 17 = .ok (.iconst 2, 1) := by decide +kernel
theorem d_N_isMisplaced_18 : decode b_N_isMisplaced 18 = .ok (.invokevirtual 46, 3) := by decide +kernel
theorem d_N_isMisplaced_21 : decode b_N_isMisplaced 21 = .ok (.istore 5, 2) := by decide +kernel
theorem d_N_isMisplaced_23 : decode b_N_isMisplaced 23 = .ok (.aload_n 0, 1) := by decide +kernel
theorem d_N_isMisplaced_24 : decode b_N_isMisplaced 24 = .ok (.aload_n 0, 1) := by decide +kernel
theorem d_N_isMisplaced_25 : decode b_N_isMisplaced 25 = .ok (.iload 4, 2) := by decide +kernel
theorem d_N_isMisplaced_27 : decode b_N_isMisplaced 27 = .ok (.invokevirtual 50, 3) := by decide +kernel
theorem d_N_isMisplaced_30 : decode b_N_isMisplaced 30 = .ok (.invokevirtual 54, 3) := by decide +kernel
theorem d_N_isMisplaced_33 : decode b_N_isMisplaced 33 = .ok (.aload_n 0, 1) := by decide +kernel
theorem d_N_isMisplaced_34 : decode b_N_isMisplaced 34 = .ok (.aload_n 0, 1) := by decide +kernel
theorem d_N_isMisplaced_35 : decode b_N_isMisplaced 35 = .ok (.iload 5, 2) := by decide +kernel
theorem d_N_isMisplaced_37 : decode b_N_isMisplaced 37 = .ok (.invokevirtual 50, 3) := by decide +kernel
theorem d_N_isMisplaced_40 : decode b_N_isMisplaced 40 = .ok (.invokevirtual 54, 3) := by decide +kernel
theorem d_N_isMisplaced_43 : decode b_N_isMisplaced 43 = .ok (.invokestatic 57, 3) := by decide +kernel
theorem d_N_isMisplaced_46 : decode b_N_isMisplaced 46 = .ok (.istore 6, 2) := by decide +kernel
theorem d_N_isMisplaced_48 : decode b_N_isMisplaced 48 = .ok (.iload 4, 2) := by decide +kernel
theorem d_N_isMisplaced_50 : decode b_N_isMisplaced 50 = .ok (.iload 5, 2) := by decide +kernel
theorem d_N_isMisplaced_52 : decode b_N_isMisplaced 52 = .ok (.if_icmp .eq 25, 3) := by decide +kernel
theorem d_N_isMisplaced_55 : decode b_N_isMisplaced 55 = .ok (.aload_n 0, 1) := by decide +kernel
theorem d_N_isMisplaced_56 : decode b_N_isMisplaced 56 = .ok (.iload_n 3, 1) := by decide +kernel
theorem d_N_isMisplaced_57 : decode b_N_isMisplaced 57 = .ok (.invokevirtual 54, 3) := by decide +kernel
theorem d_N_isMisplaced_60 : decode b_N_isMisplaced 60 = .ok (.iload 6, 2) := by decide +kernel
theorem d_N_isMisplaced_62 : decode b_N_isMisplaced 62 = .ok (.if_icmp .ge 15, 3) := by decide +kernel
theorem d_N_isMisplaced_65 : decode b_N_isMisplaced 65 = .ok (.iload_n 3, 1) := by decide +kernel
theorem d_N_isMisplaced_66 : decode b_N_isMisplaced 66 = .ok (.iload 4, 2) := by decide +kernel
theorem d_N_isMisplaced_68 : decode b_N_isMisplaced 68 = .ok (.iload 5, 2) := by decide +kernel
theorem d_N_isMisplaced_70 : decode b_N_isMisplaced 70 = .ok (.invokestatic 69, 3) := by decide +kernel
theorem d_N_isMisplaced_73 : decode b_N_isMisplaced 73 = .ok (.iload_n 2, 1) := by decide +kernel
theorem d_N_isMisplaced_74 : decode b_N_isMisplaced 74 = .ok (.if_icmp .eq 7, 3) := by decide +kernel
theorem d_N_isMisplaced_77 : decode b_N_isMisplaced 77 = .ok (.iconst 1, 1) := by decide +kernel
theorem d_N_isMisplaced_78 : decode b_N_isMisplaced 78 = .ok (.goto 4, 3) := by decide +kernel
theorem d_N_isMisplaced_81 : decode b_N_isMisplaced 81 = .ok (.iconst 0, 1) := by decide +kernel
theorem d_N_isMisplaced_82 : decode b_N_isMisplaced 82 = .ok (.ireturn, 1) := by decide +kernel
theorem d_N_get_0 : decode b_N_get 0 = .ok (.iload_n 1, 1) := by decide +kernel
theorem d_N_get_1 : decode b_N_get 1 = .ok (.iconst 5, 1) := by decide +kernel
theorem d_N_get_2 : decode b_N_get 2 = .ok (.imul, 1) := by decide +kernel
theorem d_N_get_3 : decode b_N_get 3 = .ok (.iload_n 2, 1) := by decide +kernel
theorem d_N_get_4 : decode b_N_get 4 = .ok (.iadd, 1) := by decide +kernel
theorem d_N_get_5 : decode b_N_get 5 = .ok (.istore_n 3, 1) := by decide +kernel
theorem d_N_get_6 : decode b_N_get 6 = .ok (.iload_n 3, 1) := by decide +kernel
theorem d_N_get_7 : decode b_N_get 7 = .ok (.ifCond .lt 21, 3) := by decide +kernel
theorem d_N_get_10 : decode b_N_get 10 = .ok (.iload_n 3, 1) := by decide +kernel
theorem d_N_get_11 : decode b_N_get 11 = .ok (.aload_n 0, 1) := by decide +kernel
theorem d_N_get_12 : decode b_N_get 12 = .ok (.getfield 11, 3) := by decide +kernel
theorem d_N_get_15 : decode b_N_get 15 = .ok (.arraylength, 1) := by decide +kernel
theorem d_N_get_16 : decode b_N_get 16 = .ok (.if_icmp .ge 12, 3) := by decide +kernel
theorem d_N_get_19 : decode b_N_get 19 = .ok (.aload_n 0, 1) := by decide +kernel
theorem d_N_get_20 : decode b_N_get 20 = .ok (.getfield 11, 3) := by decide +kernel
theorem d_N_get_23 : decode b_N_get 23 = .ok (.iload_n 3, 1) := by decide +kernel
theorem d_N_get_24 : decode b_N_get 24 = .ok (.iaload, 1) := by decide +kernel
theorem d_N_get_25 : decode b_N_get 25 = .ok (.goto 4, 3) := by decide +kernel
theorem d_N_get_28 : decode b_N_get 28 = .ok (.iconst 0, 1) := by decide +kernel
theorem d_N_get_29 : decode b_N_get 29 = .ok (.ireturn, 1) := by decide +kernel
theorem d_N_askedBy_0 : decode b_N_askedBy 0 = .ok (.aload_n 0, 1) := by decide +kernel
theorem d_N_askedBy_1 : decode b_N_askedBy 1 = .ok (.iload_n 1, 1) := by decide +kernel
theorem d_N_askedBy_2 : decode b_N_askedBy 2 = .ok (.iconst 0, 1) := by decide +kernel
theorem d_N_askedBy_3 : decode b_N_askedBy 3 = .ok (.invokevirtual 46, 3) := by decide +kernel
theorem d_N_askedBy_6 : decode b_N_askedBy 6 = .ok (.ireturn, 1) := by decide +kernel
theorem d_N_levelOf_0 : decode b_N_levelOf 0 = .ok (.iload_n 1, 1) := by decide +kernel
theorem d_N_levelOf_1 : decode b_N_levelOf 1 = .ok (.ifCond .lt 21, 3) := by decide +kernel
theorem d_N_levelOf_4 : decode b_N_levelOf 4 = .ok (.iload_n 1, 1) := by decide +kernel
theorem d_N_levelOf_5 : decode b_N_levelOf 5 = .ok (.aload_n 0, 1) := by decide +kernel
theorem d_N_levelOf_6 : decode b_N_levelOf 6 = .ok (.getfield 31, 3) := by decide +kernel
theorem d_N_levelOf_9 : decode b_N_levelOf 9 = .ok (.arraylength, 1) := by decide +kernel
theorem d_N_levelOf_10 : decode b_N_levelOf 10 = .ok (.if_icmp .ge 12, 3) := by decide +kernel
theorem d_N_levelOf_13 : decode b_N_levelOf 13 = .ok (.aload_n 0, 1) := by decide +kernel
theorem d_N_levelOf_14 : decode b_N_levelOf 14 = .ok (.getfield 31, 3) := by decide +kernel
theorem d_N_levelOf_17 : decode b_N_levelOf 17 = .ok (.iload_n 1, 1) := by decide +kernel
theorem d_N_levelOf_18 : decode b_N_levelOf 18 = .ok (.iaload, 1) := by decide +kernel
theorem d_N_levelOf_19 : decode b_N_levelOf 19 = .ok (.goto 5, 3) := by decide +kernel
theorem d_N_levelOf_22 : decode b_N_levelOf 22 = .ok (.bipush 12, 2) := by decide +kernel
theorem d_N_levelOf_24 : decode b_N_levelOf 24 = .ok (.ireturn, 1) := by decide +kernel
theorem d_JM_min_0 : decode b_JM_min 0 = .ok (.iload_n 0, 1) := by decide +kernel
theorem d_JM_min_1 : decode b_JM_min 1 = .ok (.iload_n 1, 1) := by decide +kernel
theorem d_JM_min_2 : decode b_JM_min 2 = .ok (.if_icmp .gt 7, 3) := by decide +kernel
theorem d_JM_min_5 : decode b_JM_min 5 = .ok (.iload_n 0, 1) := by decide +kernel
theorem d_JM_min_6 : decode b_JM_min 6 = .ok (.goto 4, 3) := by decide +kernel
theorem d_JM_min_9 : decode b_JM_min 9 = .ok (.iload_n 1, 1) := by decide +kernel
theorem d_JM_min_10 : decode b_JM_min 10 = .ok (.ireturn, 1) := by decide +kernel
theorem d_N_chainFor_0 : decode b_N_chainFor 0 = .ok (.iload_n 1, 1) := by decide +kernel
theorem d_N_chainFor_1 : decode b_N_chainFor 1 = .ok (.ldc 85, 2) := by decide +kernel
theorem d_N_chainFor_3 : decode b_N_chainFor 3 = .ok (.imul, 1) := by decide +kernel
theorem d_N_chainFor_4 : decode b_N_chainFor 4 = .ok (.iload_n 2, 1) := by decide +kernel
theorem d_N_chainFor_5 : decode b_N_chainFor 5 = .ok (.ldc 86, 2) := by decide +kernel
theorem d_N_chainFor_7 : decode b_N_chainFor 7 = .ok (.imul, 1) := by decide +kernel
theorem d_N_chainFor_8 : decode b_N_chainFor 8 = .ok (.iadd, 1) := by decide +kernel
theorem d_N_chainFor_9 : decode b_N_chainFor 9 = .ok (.istore_n 3, 1) := by decide +kernel
theorem d_N_chainFor_10 : decode b_N_chainFor 10 = .ok (.iload_n 0, 1) := by decide +kernel
theorem d_N_chainFor_11 : decode b_N_chainFor 11 = .ok (.bipush 64, 2) := by decide +kernel
theorem d_N_chainFor_13 : decode b_N_chainFor 13 = .ok (.imul, 1) := by decide +kernel
theorem d_N_chainFor_14 : decode b_N_chainFor 14 = .ok (.iload_n 3, 1) := by decide +kernel
theorem d_N_chainFor_15 : decode b_N_chainFor 15 = .ok (.bipush 20, 2) := by decide +kernel
theorem d_N_chainFor_17 : decode b_N_chainFor 17 = .ok (.iushr, 1) := by decide +kernel
theorem d_N_chainFor_18 : decode b_N_chainFor 18 = .ok (.bipush 63, 2) := by decide +kernel
theorem d_N_chainFor_20 : decode b_N_chainFor 20 = .ok (.iand, 1) := by decide +kernel
theorem d_N_chainFor_21 : decode b_N_chainFor 21 = .ok (.iadd, 1) := by decide +kernel
theorem d_N_chainFor_22 : decode b_N_chainFor 22 = .ok (.ireturn, 1) := by decide +kernel
theorem d_N_isThereTwice_0 : decode b_N_isThereTwice 0 = .ok (.aload_n 0, 1) := by decide +kernel
theorem d_N_isThereTwice_1 : decode b_N_isThereTwice 1 = .ok (.iload_n 1, 1) := by decide +kernel
theorem d_N_isThereTwice_2 : decode b_N_isThereTwice 2 = .ok (.iconst 3, 1) := by decide +kernel
theorem d_N_isThereTwice_3 : decode b_N_isThereTwice 3 = .ok (.invokevirtual 46, 3) := by decide +kernel
theorem d_N_isThereTwice_6 : decode b_N_isThereTwice 6 = .ok (.istore_n 2, 1) := by decide +kernel
theorem d_N_isThereTwice_7 : decode b_N_isThereTwice 7 = .ok (.iconst 0, 1) := by decide +kernel
theorem d_N_isThereTwice_8 : decode b_N_isThereTwice 8 = .ok (.istore_n 3, 1) := by decide +kernel
theorem d_N_isThereTwice_9 : decode b_N_isThereTwice 9 = .ok (.iload_n 3, 1) := by decide +kernel
theorem d_N_isThereTwice_10 : decode b_N_isThereTwice 10 = .ok (.sipush 24800, 3) := by decide +kernel
theorem d_N_isThereTwice_13 : decode b_N_isThereTwice 13 = .ok (.if_icmp .ge 52, 3) := by decide +kernel
theorem d_N_isThereTwice_16 : decode b_N_isThereTwice 16 = .ok (.iload_n 2, 1) := by decide +kernel
theorem d_N_isThereTwice_17 : decode b_N_isThereTwice 17 = .ok (.ifCond .eq 48, 3) := by decide +kernel
theorem d_N_isThereTwice_20 : decode b_N_isThereTwice 20 = .ok (.aload_n 0, 1) := by decide +kernel
theorem d_N_isThereTwice_21 : decode b_N_isThereTwice 21 = .ok (.iload_n 2, 1) := by decide +kernel
theorem d_N_isThereTwice_22 : decode b_N_isThereTwice 22 = .ok (.iconst 1, 1) := by decide +kernel
theorem d_N_isThereTwice_23 : decode b_N_isThereTwice 23 = .ok (.invokevirtual 46, 3) := by decide +kernel
theorem d_N_isThereTwice_26 : decode b_N_isThereTwice 26 = .ok (.aload_n 0, 1) := by decide +kernel
theorem d_N_isThereTwice_27 : decode b_N_isThereTwice 27 = .ok (.iload_n 1, 1) := by decide +kernel
theorem d_N_isThereTwice_28 : decode b_N_isThereTwice 28 = .ok (.iconst 1, 1) := by decide +kernel
theorem d_N_isThereTwice_29 : decode b_N_isThereTwice 29 = .ok (.invokevirtual 46, 3) := by decide +kernel
theorem d_N_isThereTwice_32 : decode b_N_isThereTwice 32 = .ok (.if_icmp .ne 20, 3) := by decide +kernel
theorem d_N_isThereTwice_35 : decode b_N_isThereTwice 35 = .ok (.aload_n 0, 1) := by decide +kernel
theorem d_N_isThereTwice_36 : decode b_N_isThereTwice 36 = .ok (.iload_n 2, 1) := by decide +kernel
theorem d_N_isThereTwice_37 : decode b_N_isThereTwice 37 = .ok (.iconst 2, 1) := by decide +kernel
theorem d_N_isThereTwice_38 : decode b_N_isThereTwice 38 = .ok (.invokevirtual 46, 3) := by decide +kernel
theorem d_N_isThereTwice_41 : decode b_N_isThereTwice 41 = .ok (.aload_n 0, 1) := by decide +kernel
theorem d_N_isThereTwice_42 : decode b_N_isThereTwice 42 = .ok (.iload_n 1, 1) := by decide +kernel
theorem d_N_isThereTwice_43 : decode b_N_isThereTwice 43 = .ok (.iconst 2, 1) := by decide +kernel
theorem d_N_isThereTwice_44 : decode b_N_isThereTwice 44 = .ok (.invokevirtual 46, 3) := by decide +kernel
theorem d_N_isThereTwice_47 : decode b_N_isThereTwice 47 = .ok (.if_icmp .ne 5, 3) := by decide +kernel
theorem d_N_isThereTwice_50 : decode b_N_isThereTwice 50 = .ok (.iconst 1, 1) := by decide +kernel
theorem d_N_isThereTwice_51 : decode b_N_isThereTwice 51 = .ok (.ireturn, 1) := by decide +kernel
theorem d_N_isThereTwice_52 : decode b_N_isThereTwice 52 = .ok (.aload_n 0, 1) := by decide +kernel
theorem d_N_isThereTwice_53 : decode b_N_isThereTwice 53 = .ok (.iload_n 2, 1) := by decide +kernel
theorem d_N_isThereTwice_54 : decode b_N_isThereTwice 54 = .ok (.iconst 3, 1) := by decide +kernel
theorem d_N_isThereTwice_55 : decode b_N_isThereTwice 55 = .ok (.invokevirtual 46, 3) := by decide +kernel
theorem d_N_isThereTwice_58 : decode b_N_isThereTwice 58 = .ok (.istore_n 2, 1) := by decide +kernel
theorem d_N_isThereTwice_59 : decode b_N_isThereTwice 59 = .ok (.iinc 3 1, 3) := by decide +kernel
theorem d_N_isThereTwice_62 : decode b_N_isThereTwice 62 = .ok (.goto (-53), 3) := by decide +kernel
theorem d_N_isThereTwice_65 : decode b_N_isThereTwice 65 = .ok (.iconst 0, 1) := by decide +kernel
theorem d_N_isThereTwice_66 : decode b_N_isThereTwice 66 = .ok (.ireturn, 1) := by decide +kernel
theorem d_S_constant_0 : decode b_S_constant 0 = .ok (.iload_n 1, 1) := by decide +kernel
theorem d_S_constant_1 : decode b_S_constant 1 = .ok (.invokestatic 42, 3) := by decide +kernel
theorem d_S_constant_4 : decode b_S_constant 4 = .ok (.aload_n 0, 1) := by decide +kernel
theorem d_S_constant_5 : decode b_S_constant 5 = .ok (.iload_n 1, 1) := by decide +kernel
theorem d_S_constant_6 : decode b_S_constant 6 = .ok (.iload_n 2, 1) := by decide +kernel
theorem d_S_constant_7 : decode b_S_constant 7 = .ok (.ifCond .eq 7, 3) := by decide +kernel
theorem d_S_constant_10 : decode b_S_constant 10 = .ok (.iconst 1, 1) := by decide +kernel
theorem d_S_constant_11 : decode b_S_constant 11 = .ok (.goto 4, 3) := by decide +kernel
theorem d_S_constant_14 : decode b_S_constant 14 = .ok (.iconst 0, 1) := by decide +kernel
theorem d_S_constant_15 : decode b_S_constant 15 = .ok (.invokevirtual 46, 3) := by decide +kernel
theorem d_S_constant_18 : decode b_S_constant 18 = .ok (.pop, 1) := by decide +kernel
theorem d_S_constant_19 : decode b_S_constant 19 = .ok (.return_, 1) := by decide +kernel
theorem d_S_requireSlot_0 : decode b_S_requireSlot 0 = .ok (.iload_n 0, 1) := by decide +kernel
theorem d_S_requireSlot_1 : decode b_S_requireSlot 1 = .ok (.bipush 32, 2) := by decide +kernel
theorem d_S_requireSlot_3 : decode b_S_requireSlot 3 = .ok (.invokestatic 50, 3) := by decide +kernel
theorem d_S_requireSlot_6 : decode b_S_requireSlot 6 = .ok (.return_, 1) := by decide +kernel
theorem d_S_requireBelow_0 : decode b_S_requireBelow 0 = .ok (.iload_n 0, 1) := by decide +kernel
theorem d_S_requireBelow_1 : decode b_S_requireBelow 1 = .ok (.ifCond .lt 8, 3) := by decide +kernel
theorem d_S_requireBelow_4 : decode b_S_requireBelow 4 = .ok (.iload_n 0, 1) := by decide +kernel
theorem d_S_requireBelow_5 : decode b_S_requireBelow 5 = .ok (.iload_n 1, 1) := by decide +kernel
theorem d_S_requireBelow_6 : decode b_S_requireBelow 6 = .ok (.if_icmp .lt 13, 3) := by decide +kernel
theorem d_S_requireBelow_9 : decode b_S_requireBelow 9 = .ok (.new 103, 3) := by decide +kernel
theorem d_S_requireBelow_12 : decode b_S_requireBelow 12 = .ok (.dup, 1) := by decide +kernel
theorem d_S_requireBelow_13 : decode b_S_requireBelow 13 = .ok (.ldc 105, 2) := by decide +kernel
theorem d_S_requireBelow_15 : decode b_S_requireBelow 15 = .ok (.invokespecial 107, 3) := by decide +kernel
theorem d_S_requireBelow_18 : decode b_S_requireBelow 18 = .ok (.athrow, 1) := by decide +kernel
theorem d_S_requireBelow_19 : decode b_S_requireBelow 19 = .ok (.return_, 1) := by decide +kernel
theorem d_S_put_0 : decode b_S_put 0 = .ok (.aload_n 0, 1) := by decide +kernel
theorem d_S_put_1 : decode b_S_put 1 = .ok (.getfield 9, 3) := by decide +kernel
theorem d_S_put_4 : decode b_S_put 4 = .ok (.iload_n 1, 1) := by decide +kernel
theorem d_S_put_5 : decode b_S_put 5 = .ok (.iaload, 1) := by decide +kernel
theorem d_S_put_6 : decode b_S_put 6 = .ok (.istore_n 3, 1) := by decide +kernel
theorem d_S_put_7 : decode b_S_put 7 = .ok (.aload_n 0, 1) := by decide +kernel
theorem d_S_put_8 : decode b_S_put 8 = .ok (.getfield 22, 3) := by decide +kernel
theorem d_S_put_11 : decode b_S_put 11 = .ok (.iload_n 2, 1) := by decide +kernel
theorem d_S_put_12 : decode b_S_put 12 = .ok (.iconst 1, 1) := by decide +kernel
theorem d_S_put_13 : decode b_S_put 13 = .ok (.invokevirtual 100, 3) := by decide +kernel
theorem d_S_put_16 : decode b_S_put 16 = .ok (.aload_n 0, 1) := by decide +kernel
theorem d_S_put_17 : decode b_S_put 17 = .ok (.getfield 22, 3) := by decide +kernel
theorem d_S_put_20 : decode b_S_put 20 = .ok (.iload_n 3, 1) := by decide +kernel
theorem d_S_put_21 : decode b_S_put 21 = .ok (.iconst (-1), 1) := by decide +kernel
theorem d_S_put_22 : decode b_S_put 22 = .ok (.invokevirtual 100, 3) := by decide +kernel
theorem d_S_put_25 : decode b_S_put 25 = .ok (.aload_n 0, 1) := by decide +kernel
theorem d_S_put_26 : decode b_S_put 26 = .ok (.getfield 9, 3) := by decide +kernel
theorem d_S_put_29 : decode b_S_put 29 = .ok (.iload_n 1, 1) := by decide +kernel
theorem d_S_put_30 : decode b_S_put 30 = .ok (.iload_n 2, 1) := by decide +kernel
theorem d_S_put_31 : decode b_S_put 31 = .ok (.iastore, 1) := by decide +kernel
theorem d_S_put_32 : decode b_S_put 32 = .ok (.iload_n 2, 1) := by decide +kernel
theorem d_S_put_33 : decode b_S_put 33 = .ok (.iload_n 3, 1) := by decide +kernel
theorem d_S_put_34 : decode b_S_put 34 = .ok (.if_icmp .eq 7, 3) := by decide +kernel
theorem d_S_put_37 : decode b_S_put 37 = .ok (.iconst 1, 1) := by decide +kernel
theorem d_S_put_38 : decode b_S_put 38 = .ok (.goto 4, 3) := by decide +kernel
theorem d_S_put_41 : decode b_S_put 41 = .ok (.iconst 0, 1) := by decide +kernel
theorem d_S_put_42 : decode b_S_put 42 = .ok (.ireturn, 1) := by decide +kernel
theorem d_N_refer_0 : decode b_N_refer 0 = .ok (.aload_n 0, 1) := by decide +kernel
theorem d_N_refer_1 : decode b_N_refer 1 = .ok (.iload_n 1, 1) := by decide +kernel
theorem d_N_refer_2 : decode b_N_refer 2 = .ok (.iconst 4, 1) := by decide +kernel
theorem d_N_refer_3 : decode b_N_refer 3 = .ok (.aload_n 0, 1) := by decide +kernel
theorem d_N_refer_4 : decode b_N_refer 4 = .ok (.iload_n 1, 1) := by decide +kernel
theorem d_N_refer_5 : decode b_N_refer 5 = .ok (.iconst 4, 1) := by decide +kernel
theorem d_N_refer_6 : decode b_N_refer 6 = .ok (.invokevirtual 46, 3) := by decide +kernel
theorem d_N_refer_9 : decode b_N_refer 9 = .ok (.iload_n 2, 1) := by decide +kernel
theorem d_N_refer_10 : decode b_N_refer 10 = .ok (.iadd, 1) := by decide +kernel
theorem d_N_refer_11 : decode b_N_refer 11 = .ok (.invokevirtual 65, 3) := by decide +kernel
theorem d_N_refer_14 : decode b_N_refer 14 = .ok (.return_, 1) := by decide +kernel
theorem d_N_set_0 : decode b_N_set 0 = .ok (.iload_n 1, 1) := by decide +kernel
theorem d_N_set_1 : decode b_N_set 1 = .ok (.iconst 5, 1) := by decide +kernel
theorem d_N_set_2 : decode b_N_set 2 = .ok (.imul, 1) := by decide +kernel
theorem d_N_set_3 : decode b_N_set 3 = .ok (.iload_n 2, 1) := by decide +kernel
theorem d_N_set_4 : decode b_N_set 4 = .ok (.iadd, 1) := by decide +kernel
theorem d_N_set_5 : decode b_N_set 5 = .ok (.istore 4, 2) := by decide +kernel
theorem d_N_set_7 : decode b_N_set 7 = .ok (.iload 4, 2) := by decide +kernel
theorem d_N_set_9 : decode b_N_set 9 = .ok (.ifCond .lt 21, 3) := by decide +kernel
theorem d_N_set_12 : decode b_N_set 12 = .ok (.iload 4, 2) := by decide +kernel
theorem d_N_set_14 : decode b_N_set 14 = .ok (.aload_n 0, 1) := by decide +kernel
theorem d_N_set_15 : decode b_N_set 15 = .ok (.getfield 11, 3) := by decide +kernel
theorem d_N_set_18 : decode b_N_set 18 = .ok (.arraylength, 1) := by decide +kernel
theorem d_N_set_19 : decode b_N_set 19 = .ok (.if_icmp .ge 11, 3) := by decide +kernel
theorem d_N_set_22 : decode b_N_set 22 = .ok (.aload_n 0, 1) := by decide +kernel
theorem d_N_set_23 : decode b_N_set 23 = .ok (.getfield 11, 3) := by decide +kernel
theorem d_N_set_26 : decode b_N_set 26 = .ok (.iload 4, 2) := by decide +kernel
theorem d_N_set_28 : decode b_N_set 28 = .ok (.iload_n 3, 1) := by decide +kernel
theorem d_N_set_29 : decode b_N_set 29 = .ok (.iastore, 1) := by decide +kernel
theorem d_N_set_30 : decode b_N_set 30 = .ok (.return_, 1) := by decide +kernel
theorem d_S_variable_0 : decode b_S_variable 0 = .ok (.iload_n 1, 1) := by decide +kernel
theorem d_S_variable_1 : decode b_S_variable 1 = .ok (.invokestatic 42, 3) := by decide +kernel
theorem d_S_variable_4 : decode b_S_variable 4 = .ok (.iload_n 2, 1) := by decide +kernel
theorem d_S_variable_5 : decode b_S_variable 5 = .ok (.bipush 12, 2) := by decide +kernel
theorem d_S_variable_7 : decode b_S_variable 7 = .ok (.invokestatic 50, 3) := by decide +kernel
theorem d_S_variable_10 : decode b_S_variable 10 = .ok (.aload_n 0, 1) := by decide +kernel
theorem d_S_variable_11 : decode b_S_variable 11 = .ok (.iload_n 1, 1) := by decide +kernel
theorem d_S_variable_12 : decode b_S_variable 12 = .ok (.aload_n 0, 1) := by decide +kernel
theorem d_S_variable_13 : decode b_S_variable 13 = .ok (.getfield 31, 3) := by decide +kernel
theorem d_S_variable_16 : decode b_S_variable 16 = .ok (.iload_n 2, 1) := by decide +kernel
theorem d_S_variable_17 : decode b_S_variable 17 = .ok (.invokevirtual 54, 3) := by decide +kernel
theorem d_S_variable_20 : decode b_S_variable 20 = .ok (.invokevirtual 46, 3) := by decide +kernel
theorem d_S_variable_23 : decode b_S_variable 23 = .ok (.pop, 1) := by decide +kernel
theorem d_S_variable_24 : decode b_S_variable 24 = .ok (.return_, 1) := by decide +kernel
theorem d_A_truthOf_0 : decode b_A_truthOf 0 = .ok (.aload_n 0, 1) := by decide +kernel
theorem d_A_truthOf_1 : decode b_A_truthOf 1 = .ok (.iconst 1, 1) := by decide +kernel
theorem d_A_truthOf_2 : decode b_A_truthOf 2 = .ok (.invokevirtual 31, 3) := by decide +kernel
theorem d_A_truthOf_5 : decode b_A_truthOf 5 = .ok (.aload_n 0, 1) := by decide +kernel
theorem d_A_truthOf_6 : decode b_A_truthOf 6 = .ok (.getfield 9, 3) := by decide +kernel
theorem d_A_truthOf_9 : decode b_A_truthOf 9 = .ok (.iload_n 1, 1) := by decide +kernel
theorem d_A_truthOf_10 : decode b_A_truthOf 10 = .ok (.iconst 0, 1) := by decide +kernel
theorem d_A_truthOf_11 : decode b_A_truthOf 11 = .ok (.iconst 1, 1) := by decide +kernel
theorem d_A_truthOf_12 : decode b_A_truthOf 12 = .ok (.invokevirtual 34, 3) := by decide +kernel
theorem d_A_truthOf_15 : decode b_A_truthOf 15 = .ok (.ireturn, 1) := by decide +kernel
theorem d_A_begin_0 : decode b_A_begin 0 = .ok (.aload_n 0, 1) := by decide +kernel
theorem d_A_begin_1 : decode b_A_begin 1 = .ok (.getfield 9, 3) := by decide +kernel
theorem d_A_begin_4 : decode b_A_begin 4 = .ok (.iload_n 1, 1) := by decide +kernel
theorem d_A_begin_5 : decode b_A_begin 5 = .ok (.invokevirtual 22, 3) := by decide +kernel
theorem d_A_begin_8 : decode b_A_begin 8 = .ok (.aload_n 0, 1) := by decide +kernel
theorem d_A_begin_9 : decode b_A_begin 9 = .ok (.getfield 18, 3) := by decide +kernel
theorem d_A_begin_12 : decode b_A_begin 12 = .ok (.invokevirtual 28, 3) := by decide +kernel
theorem d_A_begin_15 : decode b_A_begin 15 = .ok (.return_, 1) := by decide +kernel
theorem d_N_makeRoom_0 : decode b_N_makeRoom 0 = .ok (.aload_n 0, 1) := by decide +kernel
theorem d_N_makeRoom_1 : decode b_N_makeRoom 1 = .ok (.getfield 40, 3) := by decide +kernel
theorem d_N_makeRoom_4 : decode b_N_makeRoom 4 = .ok (.aload_n 0, 1) := by decide +kernel
theorem d_N_makeRoom_5 : decode b_N_makeRoom 5 = .ok (.getfield 37, 3) := by decide +kernel
theorem d_N_makeRoom_8 : decode b_N_makeRoom 8 = .ok (.if_icmp .le 29, 3) := by decide +kernel
theorem d_N_makeRoom_11 : decode b_N_makeRoom 11 = .ok (.aload_n 0, 1) := by decide +kernel
theorem d_N_makeRoom_12 : decode b_N_makeRoom 12 = .ok (.invokevirtual 87, 3) := by decide +kernel
theorem d_N_makeRoom_15 : decode b_N_makeRoom 15 = .ok (.aload_n 0, 1) := by decide +kernel
theorem d_N_makeRoom_16 : decode b_N_makeRoom 16 = .ok (.iconst 2, 1) := by decide +kernel
theorem d_N_makeRoom_17 : decode b_N_makeRoom 17 = .ok (.aload_n 0, 1) := by decide +kernel
theorem d_N_makeRoom_18 : decode b_N_makeRoom 18 = .ok (.getfield 40, 3) := by decide +kernel
theorem d_N_makeRoom_21 : decode b_N_makeRoom 21 = .ok (.imul, 1) := by decide +kernel
theorem d_N_makeRoom_22 : decode b_N_makeRoom 22 = .ok (.sipush 1024, 3) := by decide +kernel
theorem d_N_makeRoom_25 : decode b_N_makeRoom 25 = .ok (.invokestatic 90, 3) := by decide +kernel
theorem d_N_makeRoom_28 : decode b_N_makeRoom 28 = .ok (.sipush 21475, 3) := by decide +kernel
theorem d_N_makeRoom_31 : decode b_N_makeRoom 31 = .ok (.invokestatic 57, 3) := by decide +kernel
theorem d_N_makeRoom_34 : decode b_N_makeRoom 34 = .ok (.putfield 37, 3) := by decide +kernel
theorem d_N_makeRoom_37 : decode b_N_makeRoom 37 = .ok (.aload_n 0, 1) := by decide +kernel
theorem d_N_makeRoom_38 : decode b_N_makeRoom 38 = .ok (.aload_n 0, 1) := by decide +kernel
theorem d_N_makeRoom_39 : decode b_N_makeRoom 39 = .ok (.getfield 40, 3) := by decide +kernel
theorem d_N_makeRoom_42 : decode b_N_makeRoom 42 = .ok (.iload_n 1, 1) := by decide +kernel
theorem d_N_makeRoom_43 : decode b_N_makeRoom 43 = .ok (.iadd, 1) := by decide +kernel
theorem d_N_makeRoom_44 : decode b_N_makeRoom 44 = .ok (.invokevirtual 93, 3) := by decide +kernel
theorem d_N_makeRoom_47 : decode b_N_makeRoom 47 = .ok (.return_, 1) := by decide +kernel
theorem d_N_collect_0 : decode b_N_collect 0 = .ok (.iconst 0, 1) := by decide +kernel
theorem d_N_collect_1 : decode b_N_collect 1 = .ok (.istore_n 1, 1) := by decide +kernel
theorem d_N_collect_2 : decode b_N_collect 2 = .ok (.iload_n 1, 1) := by decide +kernel
theorem d_N_collect_3 : decode b_N_collect 3 = .ok (.bipush 12, 2) := by decide +kernel
theorem d_N_collect_5 : decode b_N_collect 5 = .ok (.if_icmp .ge 63, 3) := by decide +kernel
theorem d_N_collect_8 : decode b_N_collect 8 = .ok (.aload_n 0, 1) := by decide +kernel
theorem d_N_collect_9 : decode b_N_collect 9 = .ok (.iload_n 1, 1) := by decide +kernel
theorem d_N_collect_10 : decode b_N_collect 10 = .ok (.invokevirtual 62, 3) := by decide +kernel
theorem d_N_collect_13 : decode b_N_collect 13 = .ok (.bipush 64, 2) := by decide +kernel
theorem d_N_collect_15 : decode b_N_collect 15 = .ok (.imul, 1) := by decide +kernel
theorem d_N_collect_16 : decode b_N_collect 16 = .ok (.istore_n 2, 1) := by decide +kernel
theorem d_N_collect_17 : decode b_N_collect 17 = .ok (.iload_n 2, 1) := by decide +kernel
theorem d_N_collect_18 : decode b_N_collect 18 = .ok (.istore_n 3, 1) := by decide +kernel
theorem d_N_collect_19 : decode b_N_collect 19 = .ok (.iload_n 3, 1) := by decide +kernel
theorem d_N_collect_20 : decode b_N_collect 20 = .ok (.iload_n 2, 1) := by decide +kernel
theorem d_N_collect_21 : decode b_N_collect 21 = .ok (.bipush 64, 2) := by decide +kernel
theorem d_N_collect_23 : decode b_N_collect 23 = .ok (.iadd, 1) := by decide +kernel
theorem d_N_collect_24 : decode b_N_collect 24 = .ok (.if_icmp .ge 38, 3) := by decide +kernel
theorem d_N_collect_27 : decode b_N_collect 27 = .ok (.iload_n 3, 1) := by decide +kernel
theorem d_N_collect_28 : decode b_N_collect 28 = .ok (.ifCond .lt 28, 3) := by decide +kernel
theorem d_N_collect_31 : decode b_N_collect 31 = .ok (.iload_n 3, 1) := by decide +kernel
theorem d_N_collect_32 : decode b_N_collect 32 = .ok (.aload_n 0, 1) := by decide +kernel
theorem d_N_collect_33 : decode b_N_collect 33 = .ok (.getfield 25, 3) := by decide +kernel
theorem d_N_collect_36 : decode b_N_collect 36 = .ok (.arraylength, 1) := by decide +kernel
theorem d_N_collect_37 : decode b_N_collect 37 = .ok (.if_icmp .ge 19, 3) := by decide +kernel
theorem d_N_collect_40 : decode b_N_collect 40 = .ok (.aload_n 0, 1) := by decide +kernel
theorem d_N_collect_41 : decode b_N_collect 41 = .ok (.getfield 25, 3) := by decide +kernel
theorem d_N_collect_44 : decode b_N_collect 44 = .ok (.iload_n 3, 1) := by decide +kernel
theorem d_N_collect_45 : decode b_N_collect 45 = .ok (.aload_n 0, 1) := by decide +kernel
theorem d_N_collect_46 : decode b_N_collect 46 = .ok (.aload_n 0, 1) := by decide +kernel
theorem d_N_collect_47 : decode b_N_collect 47 = .ok (.getfield 25, 3) := by decide +kernel
theorem d_N_collect_50 : decode b_N_collect 50 = .ok (.iload_n 3, 1) := by decide +kernel
theorem d_N_collect_51 : decode b_N_collect 51 = .ok (.iaload, 1) := by decide +kernel
theorem d_N_collect_52 : decode b_N_collect 52 = .ok (.invokevirtual 103, 3) := by decide +kernel
theorem d_N_collect_55 : decode b_N_collect 55 = .ok (.iastore, 1) := by decide +kernel
theorem d_N_collect_56 : decode b_N_collect 56 = .ok (.iinc 3 1, 3) := by decide +kernel
theorem d_N_collect_59 : decode b_N_collect 59 = .ok (.goto (-40), 3) := by decide +kernel
theorem d_N_collect_62 : decode b_N_collect 62 = .ok (.iinc 1 1, 3) := by decide +kernel
theorem d_N_collect_65 : decode b_N_collect 65 = .ok (.goto (-63), 3) := by decide +kernel
theorem d_N_collect_68 : decode b_N_collect 68 = .ok (.return_, 1) := by decide +kernel
theorem d_N_variableAt_0 : decode b_N_variableAt 0 = .ok (.iload_n 1, 1) := by decide +kernel
theorem d_N_variableAt_1 : decode b_N_variableAt 1 = .ok (.ifCond .lt 21, 3) := by decide +kernel
theorem d_N_variableAt_4 : decode b_N_variableAt 4 = .ok (.iload_n 1, 1) := by decide +kernel
theorem d_N_variableAt_5 : decode b_N_variableAt 5 = .ok (.aload_n 0, 1) := by decide +kernel
theorem d_N_variableAt_6 : decode b_N_variableAt 6 = .ok (.getfield 34, 3) := by decide +kernel
theorem d_N_variableAt_9 : decode b_N_variableAt 9 = .ok (.arraylength, 1) := by decide +kernel
theorem d_N_variableAt_10 : decode b_N_variableAt 10 = .ok (.if_icmp .ge 12, 3) := by decide +kernel
theorem d_N_variableAt_13 : decode b_N_variableAt 13 = .ok (.aload_n 0, 1) := by decide +kernel
theorem d_N_variableAt_14 : decode b_N_variableAt 14 = .ok (.getfield 34, 3) := by decide +kernel
theorem d_N_variableAt_17 : decode b_N_variableAt 17 = .ok (.iload_n 1, 1) := by decide +kernel
theorem d_N_variableAt_18 : decode b_N_variableAt 18 = .ok (.iaload, 1) := by decide +kernel
theorem d_N_variableAt_19 : decode b_N_variableAt 19 = .ok (.goto 5, 3) := by decide +kernel
theorem d_N_variableAt_22 : decode b_N_variableAt 22 = .ok (.bipush 12, 2) := by decide +kernel
theorem d_N_variableAt_24 : decode b_N_variableAt 24 = .ok (.ireturn, 1) := by decide +kernel
theorem d_N_needed_0 : decode b_N_needed 0 = .ok (.iconst 0, 1) := by decide +kernel
theorem d_N_needed_1 : decode b_N_needed 1 = .ok (.istore_n 2, 1) := by decide +kernel
theorem d_N_needed_2 : decode b_N_needed 2 = .ok (.iload_n 1, 1) := by decide +kernel
theorem d_N_needed_3 : decode b_N_needed 3 = .ok (.istore_n 3, 1) := by decide +kernel
theorem d_N_needed_4 : decode b_N_needed 4 = .ok (.iconst 0, 1) := by decide +kernel
theorem d_N_needed_5 : decode b_N_needed 5 = .ok (.istore 4, 2) := by decide +kernel
theorem d_N_needed_7 : decode b_N_needed 7 = .ok (.iload 4, 2) := by decide +kernel
theorem d_N_needed_9 : decode b_N_needed 9 = .ok (.sipush 24800, 3) := by decide +kernel
theorem d_N_needed_12 : decode b_N_needed 12 = .ok (.if_icmp .ge 106, 3) := by decide +kernel
theorem d_N_needed_15 : decode b_N_needed 15 = .ok (.iload_n 3, 1) := by decide +kernel
theorem d_N_needed_16 : decode b_N_needed 16 = .ok (.ifCond .eq 102, 3) := by decide +kernel
theorem d_N_needed_19 : decode b_N_needed 19 = .ok (.aload_n 0, 1) := by decide +kernel
theorem d_N_needed_20 : decode b_N_needed 20 = .ok (.iload_n 3, 1) := by decide +kernel
theorem d_N_needed_21 : decode b_N_needed 21 = .ok (.iconst 3, 1) := by decide +kernel
theorem d_N_needed_22 : decode b_N_needed 22 = .ok (.invokevirtual 46, 3) := by decide +kernel
theorem d_N_needed_25 : decode b_N_needed 25 = .ok (.istore 5, 2) := by decide +kernel
theorem d_N_needed_27 : decode b_N_needed 27 = .ok (.aload_n 0, 1) := by decide +kernel
theorem d_N_needed_28 : decode b_N_needed 28 = .ok (.iload_n 3, 1) := by decide +kernel
theorem d_N_needed_29 : decode b_N_needed 29 = .ok (.iconst 4, 1) := by decide +kernel
theorem d_N_needed_30 : decode b_N_needed 30 = .ok (.invokevirtual 46, 3) := by decide +kernel
theorem d_N_needed_33 : decode b_N_needed 33 = .ok (.ifCond .le 15, 3) := by decide +kernel
theorem d_N_needed_36 : decode b_N_needed 36 = .ok (.aload_n 0, 1) := by decide +kernel
theorem d_N_needed_37 : decode b_N_needed 37 = .ok (.iload_n 3, 1) := by decide +kernel
theorem d_N_needed_38 : decode b_N_needed 38 = .ok (.iconst 3, 1) := by decide +kernel
theorem d_N_needed_39 : decode b_N_needed 39 = .ok (.iload_n 2, 1) := by decide +kernel
theorem d_N_needed_40 : decode b_N_needed 40 = .ok (.invokevirtual 65, 3) := by decide +kernel
theorem d_N_needed_43 : decode b_N_needed 43 = .ok (.iload_n 3, 1) := by decide +kernel
theorem d_N_needed_44 : decode b_N_needed 44 = .ok (.istore_n 2, 1) := by decide +kernel
theorem d_N_needed_45 : decode b_N_needed 45 = .ok (.goto 64, 3) := by decide +kernel
theorem d_N_needed_48 : decode b_N_needed 48 = .ok (.aload_n 0, 1) := by decide +kernel
theorem d_N_needed_49 : decode b_N_needed 49 = .ok (.iload_n 3, 1) := by decide +kernel
theorem d_N_needed_50 : decode b_N_needed 50 = .ok (.iconst 0, 1) := by decide +kernel
theorem d_N_needed_51 : decode b_N_needed 51 = .ok (.invokevirtual 46, 3) := by decide +kernel
theorem d_N_needed_54 : decode b_N_needed 54 = .ok (.istore 6, 2) := by decide +kernel
theorem d_N_needed_56 : decode b_N_needed 56 = .ok (.iload 6, 2) := by decide +kernel
theorem d_N_needed_58 : decode b_N_needed 58 = .ok (.ifCond .lt 24, 3) := by decide +kernel
theorem d_N_needed_61 : decode b_N_needed 61 = .ok (.iload 6, 2) := by decide +kernel
theorem d_N_needed_63 : decode b_N_needed 63 = .ok (.aload_n 0, 1) := by decide +kernel
theorem d_N_needed_64 : decode b_N_needed 64 = .ok (.getfield 28, 3) := by decide +kernel
theorem d_N_needed_67 : decode b_N_needed 67 = .ok (.arraylength, 1) := by decide +kernel
theorem d_N_needed_68 : decode b_N_needed 68 = .ok (.if_icmp .ge 14, 3) := by decide +kernel
theorem d_N_needed_71 : decode b_N_needed 71 = .ok (.aload_n 0, 1) := by decide +kernel
theorem d_N_needed_72 : decode b_N_needed 72 = .ok (.getfield 28, 3) := by decide +kernel
theorem d_N_needed_75 : decode b_N_needed 75 = .ok (.iload 6, 2) := by decide +kernel
theorem d_N_needed_77 : decode b_N_needed 77 = .ok (.dup2, 1) := by decide +kernel
theorem d_N_needed_78 : decode b_N_needed 78 = .ok (.iaload, 1) := by decide +kernel
theorem d_N_needed_79 : decode b_N_needed 79 = .ok (.iconst 1, 1) := by decide +kernel
theorem d_N_needed_80 : decode b_N_needed 80 = .ok (.isub, 1) := by decide +kernel
theorem d_N_needed_81 : decode b_N_needed 81 = .ok (.iastore, 1) := by decide +kernel
theorem d_N_needed_82 : decode b_N_needed 82 = .ok (.aload_n 0, 1) := by decide +kernel
theorem d_N_needed_83 : decode b_N_needed 83 = .ok (.aload_n 0, 1) := by decide +kernel
theorem d_N_needed_84 : decode b_N_needed 84 = .ok (.iload_n 3, 1) := by decide +kernel
theorem d_N_needed_85 : decode b_N_needed 85 = .ok (.iconst 1, 1) := by decide +kernel
theorem d_N_needed_86 : decode b_N_needed 86 = .ok (.invokevirtual 46, 3) := by decide +kernel
theorem d_N_needed_89 : decode b_N_needed 89 = .ok (.iconst (-1), 1) := by decide +kernel
theorem d_N_needed_90 : decode b_N_needed 90 = .ok (.invokevirtual 77, 3) := by decide +kernel
theorem d_N_needed_93 : decode b_N_needed 93 = .ok (.aload_n 0, 1) := by decide +kernel
theorem d_N_needed_94 : decode b_N_needed 94 = .ok (.aload_n 0, 1) := by decide +kernel
theorem d_N_needed_95 : decode b_N_needed 95 = .ok (.iload_n 3, 1) := by decide +kernel
theorem d_N_needed_96 : decode b_N_needed 96 = .ok (.iconst 2, 1) := by decide +kernel
theorem d_N_needed_97 : decode b_N_needed 97 = .ok (.invokevirtual 46, 3) := by decide +kernel
theorem d_N_needed_100 : decode b_N_needed 100 = .ok (.iconst (-1), 1) := by decide +kernel
theorem d_N_needed_101 : decode b_N_needed 101 = .ok (.invokevirtual 77, 3) := by decide +kernel
theorem d_N_needed_104 : decode b_N_needed 104 = .ok (.aload_n 0, 1) := by decide +kernel
theorem d_N_needed_105 : decode b_N_needed 105 = .ok (.iload_n 3, 1) := by decide +kernel
theorem d_N_needed_106 : decode b_N_needed 106 = .ok (.invokevirtual 106, 3) := by decide +kernel
theorem d_N_needed_109 : decode b_N_needed 109 = .ok (.iload 5, 2) := by decide +kernel
theorem d_N_needed_111 : decode b_N_needed 111 = .ok (.istore_n 3, 1) := by decide +kernel
theorem d_N_needed_112 : decode b_N_needed 112 = .ok (.iinc 4 1, 3) := by decide +kernel
theorem d_N_needed_115 : decode b_N_needed 115 = .ok (.goto (-108), 3) := by decide +kernel
theorem d_N_needed_118 : decode b_N_needed 118 = .ok (.iload_n 2, 1) := by decide +kernel
theorem d_N_needed_119 : decode b_N_needed 119 = .ok (.ireturn, 1) := by decide +kernel
theorem d_N_giveBack_0 : decode b_N_giveBack 0 = .ok (.aload_n 0, 1) := by decide +kernel
theorem d_N_giveBack_1 : decode b_N_giveBack 1 = .ok (.iload_n 1, 1) := by decide +kernel
theorem d_N_giveBack_2 : decode b_N_giveBack 2 = .ok (.iconst 3, 1) := by decide +kernel
theorem d_N_giveBack_3 : decode b_N_giveBack 3 = .ok (.aload_n 0, 1) := by decide +kernel
theorem d_N_giveBack_4 : decode b_N_giveBack 4 = .ok (.getfield 22, 3) := by decide +kernel
theorem d_N_giveBack_7 : decode b_N_giveBack 7 = .ok (.invokevirtual 65, 3) := by decide +kernel
theorem d_N_giveBack_10 : decode b_N_giveBack 10 = .ok (.aload_n 0, 1) := by decide +kernel
theorem d_N_giveBack_11 : decode b_N_giveBack 11 = .ok (.iload_n 1, 1) := by decide +kernel
theorem d_N_giveBack_12 : decode b_N_giveBack 12 = .ok (.putfield 22, 3) := by decide +kernel
theorem d_N_giveBack_15 : decode b_N_giveBack 15 = .ok (.aload_n 0, 1) := by decide +kernel
theorem d_N_giveBack_16 : decode b_N_giveBack 16 = .ok (.dup, 1) := by decide +kernel
theorem d_N_giveBack_17 : decode b_N_giveBack 17 = .ok (.getfield 40, 3) := by decide +kernel
theorem d_N_giveBack_20 : decode b_N_giveBack 20 = .ok (.iconst 1, 1) := by decide +kernel
theorem d_N_giveBack_21 : decode b_N_giveBack 21 = .ok (.isub, 1) := by decide +kernel
theorem d_N_giveBack_22 : decode b_N_giveBack 22 = .ok (.putfield 40, 3) := by decide +kernel
theorem d_N_giveBack_25 : decode b_N_giveBack 25 = .ok (.return_, 1) := by decide +kernel
theorem d_JM_max_0 : decode b_JM_max 0 = .ok (.iload_n 0, 1) := by decide +kernel
theorem d_JM_max_1 : decode b_JM_max 1 = .ok (.iload_n 1, 1) := by decide +kernel
theorem d_JM_max_2 : decode b_JM_max 2 = .ok (.if_icmp .lt 7, 3) := by decide +kernel
theorem d_JM_max_5 : decode b_JM_max 5 = .ok (.iload_n 0, 1) := by decide +kernel
theorem d_JM_max_6 : decode b_JM_max 6 = .ok (.goto 4, 3) := by decide +kernel
theorem d_JM_max_9 : decode b_JM_max 9 = .ok (.iload_n 1, 1) := by decide +kernel
theorem d_JM_max_10 : decode b_JM_max 10 = .ok (.ireturn, 1) := by decide +kernel
theorem d_N_widen_0 : decode b_N_widen 0 = .ok (.iload_n 1, 1) := by decide +kernel
theorem d_N_widen_1 : decode b_N_widen 1 = .ok (.iconst 2, 1) := by decide +kernel
theorem d_N_widen_2 : decode b_N_widen 2 = .ok (.iadd, 1) := by decide +kernel
theorem d_N_widen_3 : decode b_N_widen 3 = .ok (.sipush 24800, 3) := by decide +kernel
theorem d_N_widen_6 : decode b_N_widen 6 = .ok (.invokestatic 57, 3) := by decide +kernel
theorem d_N_widen_9 : decode b_N_widen 9 = .ok (.istore_n 2, 1) := by decide +kernel
theorem d_N_widen_10 : decode b_N_widen 10 = .ok (.iload_n 2, 1) := by decide +kernel
theorem d_N_widen_11 : decode b_N_widen 11 = .ok (.aload_n 0, 1) := by decide +kernel
theorem d_N_widen_12 : decode b_N_widen 12 = .ok (.getfield 15, 3) := by decide +kernel
theorem d_N_widen_15 : decode b_N_widen 15 = .ok (.if_icmp .le 40, 3) := by decide +kernel
theorem d_N_widen_18 : decode b_N_widen 18 = .ok (.aload_n 0, 1) := by decide +kernel
theorem d_N_widen_19 : decode b_N_widen 19 = .ok (.iload_n 2, 1) := by decide +kernel
theorem d_N_widen_20 : decode b_N_widen 20 = .ok (.iconst 2, 1) := by decide +kernel
theorem d_N_widen_21 : decode b_N_widen 21 = .ok (.aload_n 0, 1) := by decide +kernel
theorem d_N_widen_22 : decode b_N_widen 22 = .ok (.getfield 15, 3) := by decide +kernel
theorem d_N_widen_25 : decode b_N_widen 25 = .ok (.imul, 1) := by decide +kernel
theorem d_N_widen_26 : decode b_N_widen 26 = .ok (.invokestatic 90, 3) := by decide +kernel
theorem d_N_widen_29 : decode b_N_widen 29 = .ok (.sipush 24800, 3) := by decide +kernel
theorem d_N_widen_32 : decode b_N_widen 32 = .ok (.invokestatic 57, 3) := by decide +kernel
theorem d_N_widen_35 : decode b_N_widen 35 = .ok (.putfield 15, 3) := by decide +kernel
theorem d_N_widen_38 : decode b_N_widen 38 = .ok (.aload_n 0, 1) := by decide +kernel
theorem d_N_widen_39 : decode b_N_widen 39 = .ok (.aload_n 0, 1) := by decide +kernel
theorem d_N_widen_40 : decode b_N_widen 40 = .ok (.getfield 11, 3) := by decide +kernel
theorem d_N_widen_43 : decode b_N_widen 43 = .ok (.aload_n 0, 1) := by decide +kernel
theorem d_N_widen_44 : decode b_N_widen 44 = .ok (.getfield 15, 3) := by decide +kernel
theorem d_N_widen_47 : decode b_N_widen 47 = .ok (.iconst 5, 1) := by decide +kernel
theorem d_N_widen_48 : decode b_N_widen 48 = .ok (.imul, 1) := by decide +kernel
theorem d_N_widen_49 : decode b_N_widen 49 = .ok (.invokestatic 97, 3) := by decide +kernel
theorem d_N_widen_52 : decode b_N_widen 52 = .ok (.putfield 11, 3) := by decide +kernel
theorem d_N_widen_55 : decode b_N_widen 55 = .ok (.return_, 1) := by decide +kernel
theorem d_JA_copyOf_0 : decode b_JA_copyOf 0 = .ok (.iload_n 1, 1) := by decide +kernel
theorem d_JA_copyOf_1 : decode b_JA_copyOf 1 = .ok (.aload_n 0, 1) := by decide +kernel
theorem d_JA_copyOf_2 : decode b_JA_copyOf 2 = .ok (.arraylength, 1) := by decide +kernel
theorem d_JA_copyOf_3 : decode b_JA_copyOf 3 = .ok (.if_icmp .ne 11, 3) := by decide +kernel
theorem d_JA_copyOf_6 : decode b_JA_copyOf 6 = .ok (.aload_n 0, 1) := by decide +kernel
theorem d_JA_copyOf_7 : decode b_JA_copyOf 7 = .ok (.invokevirtual 316, 3) := by decide +kernel
theorem d_JA_copyOf_10 : decode b_JA_copyOf 10 = .ok (.checkcast 317, 3) := by decide +kernel
theorem d_JA_copyOf_13 : decode b_JA_copyOf 13 = .ok (.areturn, 1) := by decide +kernel
theorem d_JA_copyOf_14 : decode b_JA_copyOf 14 = .ok (.iload_n 1, 1) := by decide +kernel
theorem d_JA_copyOf_15 : decode b_JA_copyOf 15 = .ok (.newarray .int, 2) := by decide +kernel
theorem d_JA_copyOf_17 : decode b_JA_copyOf 17 = .ok (.astore_n 2, 1) := by decide +kernel
theorem d_JA_copyOf_18 : decode b_JA_copyOf 18 = .ok (.aload_n 0, 1) := by decide +kernel
theorem d_JA_copyOf_19 : decode b_JA_copyOf 19 = .ok (.iconst 0, 1) := by decide +kernel
theorem d_JA_copyOf_20 : decode b_JA_copyOf 20 = .ok (.aload_n 2, 1) := by decide +kernel
theorem d_JA_copyOf_21 : decode b_JA_copyOf 21 = .ok (.iconst 0, 1) := by decide +kernel
theorem d_JA_copyOf_22 : decode b_JA_copyOf 22 = .ok (.aload_n 0, 1) := by decide +kernel
theorem d_JA_copyOf_23 : decode b_JA_copyOf 23 = .ok (.arraylength, 1) := by decide +kernel
theorem d_JA_copyOf_24 : decode b_JA_copyOf 24 = .ok (.iload_n 1, 1) := by decide +kernel
theorem d_JA_copyOf_25 : decode b_JA_copyOf 25 = .ok (.invokestatic 304, 3) := by decide +kernel
theorem d_JA_copyOf_28 : decode b_JA_copyOf 28 = .ok (.invokestatic 150, 3) := by decide +kernel
theorem d_JA_copyOf_31 : decode b_JA_copyOf 31 = .ok (.aload_n 2, 1) := by decide +kernel
theorem d_JA_copyOf_32 : decode b_JA_copyOf 32 = .ok (.areturn, 1) := by decide +kernel
theorem d_M_forget_0 : decode b_M_forget 0 = .ok (.aload_n 0, 1) := by decide +kernel
theorem d_M_forget_1 : decode b_M_forget 1 = .ok (.dup, 1) := by decide +kernel
theorem d_M_forget_2 : decode b_M_forget 2 = .ok (.getfield 15, 3) := by decide +kernel
theorem d_M_forget_5 : decode b_M_forget 5 = .ok (.iconst 1, 1) := by decide +kernel
theorem d_M_forget_6 : decode b_M_forget 6 = .ok (.iadd, 1) := by decide +kernel
theorem d_M_forget_7 : decode b_M_forget 7 = .ok (.putfield 15, 3) := by decide +kernel
theorem d_M_forget_10 : decode b_M_forget 10 = .ok (.return_, 1) := by decide +kernel
theorem d_N_make_0 : decode b_N_make 0 = .ok (.iload_n 2, 1) := by decide +kernel
theorem d_N_make_1 : decode b_N_make 1 = .ok (.iload_n 3, 1) := by decide +kernel
theorem d_N_make_2 : decode b_N_make 2 = .ok (.if_icmp .ne 5, 3) := by decide +kernel
theorem d_N_make_5 : decode b_N_make 5 = .ok (.iload_n 2, 1) := by decide +kernel
theorem d_N_make_6 : decode b_N_make 6 = .ok (.ireturn, 1) := by decide +kernel
theorem d_N_make_7 : decode b_N_make 7 = .ok (.iload_n 1, 1) := by decide +kernel
theorem d_N_make_8 : decode b_N_make 8 = .ok (.iload_n 2, 1) := by decide +kernel
theorem d_N_make_9 : decode b_N_make 9 = .ok (.iload_n 3, 1) := by decide +kernel
theorem d_N_make_10 : decode b_N_make 10 = .ok (.invokestatic 69, 3) := by decide +kernel
theorem d_N_make_13 : decode b_N_make 13 = .ok (.istore 4, 2) := by decide +kernel
theorem d_N_make_15 : decode b_N_make 15 = .ok (.iload 4, 2) := by decide +kernel
theorem d_N_make_17 : decode b_N_make 17 = .ok (.ifCond .lt 13, 3) := by decide +kernel
theorem d_N_make_20 : decode b_N_make 20 = .ok (.iload 4, 2) := by decide +kernel
theorem d_N_make_22 : decode b_N_make 22 = .ok (.aload_n 0, 1) := by decide +kernel
theorem d_N_make_23 : decode b_N_make 23 = .ok (.getfield 25, 3) := by decide +kernel
theorem d_N_make_26 : decode b_N_make 26 = .ok (.arraylength, 1) := by decide +kernel
theorem d_N_make_27 : decode b_N_make 27 = .ok (.if_icmp .lt 5, 3) := by decide +kernel
theorem d_N_make_30 : decode b_N_make 30 = .ok (.iconst 0, 1) := by decide +kernel
theorem d_N_make_31 : decode b_N_make 31 = .ok (.ireturn, 1) := by decide +kernel
theorem d_N_make_32 : decode b_N_make 32 = .ok (.aload_n 0, 1) := by decide +kernel
theorem d_N_make_33 : decode b_N_make 33 = .ok (.getfield 25, 3) := by decide +kernel
theorem d_N_make_36 : decode b_N_make 36 = .ok (.iload 4, 2) := by decide +kernel
theorem d_N_make_38 : decode b_N_make 38 = .ok (.iaload, 1) := by decide +kernel
theorem d_N_make_39 : decode b_N_make 39 = .ok (.istore 5, 2) := by decide +kernel
theorem d_N_make_41 : decode b_N_make 41 = .ok (.iconst 0, 1) := by decide +kernel
theorem d_N_make_42 : decode b_N_make 42 = .ok (.istore 6, 2) := by decide +kernel
theorem d_N_make_44 : decode b_N_make 44 = .ok (.iload 6, 2) := by decide +kernel
theorem d_N_make_46 : decode b_N_make 46 = .ok (.sipush 24800, 3) := by decide +kernel
theorem d_N_make_49 : decode b_N_make 49 = .ok (.if_icmp .ge 48, 3) := by decide +kernel
theorem d_N_make_52 : decode b_N_make 52 = .ok (.iload 5, 2) := by decide +kernel
theorem d_N_make_54 : decode b_N_make 54 = .ok (.ifCond .eq 43, 3) := by decide +kernel
theorem d_N_make_57 : decode b_N_make 57 = .ok (.aload_n 0, 1) := by decide +kernel
theorem d_N_make_58 : decode b_N_make 58 = .ok (.iload 5, 2) := by decide +kernel
theorem d_N_make_60 : decode b_N_make 60 = .ok (.iconst 1, 1) := by decide +kernel
theorem d_N_make_61 : decode b_N_make 61 = .ok (.invokevirtual 46, 3) := by decide +kernel
theorem d_N_make_64 : decode b_N_make 64 = .ok (.iload_n 2, 1) := by decide +kernel
theorem d_N_make_65 : decode b_N_make 65 = .ok (.if_icmp .ne 17, 3) := by decide +kernel
theorem d_N_make_68 : decode b_N_make 68 = .ok (.aload_n 0, 1) := by decide +kernel
theorem d_N_make_69 : decode b_N_make 69 = .ok (.iload 5, 2) := by decide +kernel
theorem d_N_make_71 : decode b_N_make 71 = .ok (.iconst 2, 1) := by decide +kernel
theorem d_N_make_72 : decode b_N_make 72 = .ok (.invokevirtual 46, 3) := by decide +kernel
theorem d_N_make_75 : decode b_N_make 75 = .ok (.iload_n 3, 1) := by decide +kernel
theorem d_N_make_76 : decode b_N_make 76 = .ok (.if_icmp .ne 6, 3) := by decide +kernel
theorem d_N_make_79 : decode b_N_make 79 = .ok (.iload 5, 2) := by decide +kernel
theorem d_N_make_81 : decode b_N_make 81 = .ok (.ireturn, 1) := by decide +kernel
theorem d_N_make_82 : decode b_N_make 82 = .ok (.aload_n 0, 1) := by decide +kernel
theorem d_N_make_83 : decode b_N_make 83 = .ok (.iload 5, 2) := by decide +kernel
theorem d_N_make_85 : decode b_N_make 85 = .ok (.iconst 3, 1) := by decide +kernel
theorem d_N_make_86 : decode b_N_make 86 = .ok (.invokevirtual 46, 3) := by decide +kernel
theorem d_N_make_89 : decode b_N_make 89 = .ok (.istore 5, 2) := by decide +kernel
theorem d_N_make_91 : decode b_N_make 91 = .ok (.iinc 6 1, 3) := by decide +kernel
theorem d_N_make_94 : decode b_N_make 94 = .ok (.goto (-50), 3) := by decide +kernel
theorem d_N_make_97 : decode b_N_make 97 = .ok (.aload_n 0, 1) := by decide +kernel
theorem d_N_make_98 : decode b_N_make 98 = .ok (.invokevirtual 73, 3) := by decide +kernel
theorem d_N_make_101 : decode b_N_make 101 = .ok (.istore 5, 2) := by decide +kernel
theorem d_N_make_103 : decode b_N_make 103 = .ok (.iload 5, 2) := by decide +kernel
theorem d_N_make_105 : decode b_N_make 105 = .ok (.ifCond .ne 5, 3) := by decide +kernel
theorem d_N_make_108 : decode b_N_make 108 = .ok (.iconst 0, 1) := by decide +kernel
theorem d_N_make_109 : decode b_N_make 109 = .ok (.ireturn, 1) := by decide +kernel
theorem d_N_make_110 : decode b_N_make 110 = .ok (.aload_n 0, 1) := by decide +kernel
theorem d_N_make_111 : decode b_N_make 111 = .ok (.iload_n 2, 1) := by decide +kernel
theorem d_N_make_112 : decode b_N_make 112 = .ok (.iconst 1, 1) := by decide +kernel
theorem d_N_make_113 : decode b_N_make 113 = .ok (.invokevirtual 77, 3) := by decide +kernel
theorem d_N_make_116 : decode b_N_make 116 = .ok (.aload_n 0, 1) := by decide +kernel
theorem d_N_make_117 : decode b_N_make 117 = .ok (.iload_n 3, 1) := by decide +kernel
theorem d_N_make_118 : decode b_N_make 118 = .ok (.iconst 1, 1) := by decide +kernel
theorem d_N_make_119 : decode b_N_make 119 = .ok (.invokevirtual 77, 3) := by decide +kernel
theorem d_N_make_122 : decode b_N_make 122 = .ok (.aload_n 0, 1) := by decide +kernel
theorem d_N_make_123 : decode b_N_make 123 = .ok (.iload 5, 2) := by decide +kernel
theorem d_N_make_125 : decode b_N_make 125 = .ok (.iload_n 1, 1) := by decide +kernel
theorem d_N_make_126 : decode b_N_make 126 = .ok (.iload_n 2, 1) := by decide +kernel
theorem d_N_make_127 : decode b_N_make 127 = .ok (.iload_n 3, 1) := by decide +kernel
theorem d_N_make_128 : decode b_N_make 128 = .ok (.invokevirtual 81, 3) := by decide +kernel
theorem d_N_make_131 : decode b_N_make 131 = .ok (.iload 5, 2) := by decide +kernel
theorem d_N_make_133 : decode b_N_make 133 = .ok (.ireturn, 1) := by decide +kernel
theorem d_N_freshRow_0 : decode b_N_freshRow 0 = .ok (.aload_n 0, 1) := by decide +kernel
theorem d_N_freshRow_1 : decode b_N_freshRow 1 = .ok (.getfield 22, 3) := by decide +kernel
theorem d_N_freshRow_4 : decode b_N_freshRow 4 = .ok (.istore_n 1, 1) := by decide +kernel
theorem d_N_freshRow_5 : decode b_N_freshRow 5 = .ok (.iload_n 1, 1) := by decide +kernel
theorem d_N_freshRow_6 : decode b_N_freshRow 6 = .ok (.ifCond .eq 16, 3) := by decide +kernel
theorem d_N_freshRow_9 : decode b_N_freshRow 9 = .ok (.aload_n 0, 1) := by decide +kernel
theorem d_N_freshRow_10 : decode b_N_freshRow 10 = .ok (.aload_n 0, 1) := by decide +kernel
theorem d_N_freshRow_11 : decode b_N_freshRow 11 = .ok (.iload_n 1, 1) := by decide +kernel
theorem d_N_freshRow_12 : decode b_N_freshRow 12 = .ok (.iconst 3, 1) := by decide +kernel
theorem d_N_freshRow_13 : decode b_N_freshRow 13 = .ok (.invokevirtual 46, 3) := by decide +kernel
theorem d_N_freshRow_16 : decode b_N_freshRow 16 = .ok (.putfield 22, 3) := by decide +kernel
theorem d_N_freshRow_19 : decode b_N_freshRow 19 = .ok (.goto 34, 3) := by decide +kernel
theorem d_N_freshRow_22 : decode b_N_freshRow 22 = .ok (.aload_n 0, 1) := by decide +kernel
theorem d_N_freshRow_23 : decode b_N_freshRow 23 = .ok (.getfield 19, 3) := by decide +kernel
theorem d_N_freshRow_26 : decode b_N_freshRow 26 = .ok (.aload_n 0, 1) := by decide +kernel
theorem d_N_freshRow_27 : decode b_N_freshRow 27 = .ok (.getfield 15, 3) := by decide +kernel
theorem d_N_freshRow_30 : decode b_N_freshRow 30 = .ok (.if_icmp .ge 21, 3) := by decide +kernel
theorem d_N_freshRow_33 : decode b_N_freshRow 33 = .ok (.aload_n 0, 1) := by decide +kernel
theorem d_N_freshRow_34 : decode b_N_freshRow 34 = .ok (.getfield 19, 3) := by decide +kernel
theorem d_N_freshRow_37 : decode b_N_freshRow 37 = .ok (.istore_n 1, 1) := by decide +kernel
theorem d_N_freshRow_38 : decode b_N_freshRow 38 = .ok (.aload_n 0, 1) := by decide +kernel
theorem d_N_freshRow_39 : decode b_N_freshRow 39 = .ok (.dup, 1) := by decide +kernel
theorem d_N_freshRow_40 : decode b_N_freshRow 40 = .ok (.getfield 19, 3) := by decide +kernel
theorem d_N_freshRow_43 : decode b_N_freshRow 43 = .ok (.iconst 1, 1) := by decide +kernel
theorem d_N_freshRow_44 : decode b_N_freshRow 44 = .ok (.iadd, 1) := by decide +kernel
theorem d_N_freshRow_45 : decode b_N_freshRow 45 = .ok (.putfield 19, 3) := by decide +kernel
theorem d_N_freshRow_48 : decode b_N_freshRow 48 = .ok (.goto 5, 3) := by decide +kernel
theorem d_N_freshRow_51 : decode b_N_freshRow 51 = .ok (.iconst 0, 1) := by decide +kernel
theorem d_N_freshRow_52 : decode b_N_freshRow 52 = .ok (.ireturn, 1) := by decide +kernel
theorem d_N_freshRow_53 : decode b_N_freshRow 53 = .ok (.aload_n 0, 1) := by decide +kernel
theorem d_N_freshRow_54 : decode b_N_freshRow 54 = .ok (.iload_n 1, 1) := by decide +kernel
theorem d_N_freshRow_55 : decode b_N_freshRow 55 = .ok (.iconst 4, 1) := by decide +kernel
theorem d_N_freshRow_56 : decode b_N_freshRow 56 = .ok (.iconst 0, 1) := by decide +kernel
theorem d_N_freshRow_57 : decode b_N_freshRow 57 = .ok (.invokevirtual 65, 3) := by decide +kernel
theorem d_N_freshRow_60 : decode b_N_freshRow 60 = .ok (.aload_n 0, 1) := by decide +kernel
theorem d_N_freshRow_61 : decode b_N_freshRow 61 = .ok (.dup, 1) := by decide +kernel
theorem d_N_freshRow_62 : decode b_N_freshRow 62 = .ok (.getfield 40, 3) := by decide +kernel
theorem d_N_freshRow_65 : decode b_N_freshRow 65 = .ok (.iconst 1, 1) := by decide +kernel
theorem d_N_freshRow_66 : decode b_N_freshRow 66 = .ok (.iadd, 1) := by decide +kernel
theorem d_N_freshRow_67 : decode b_N_freshRow 67 = .ok (.putfield 40, 3) := by decide +kernel
theorem d_N_freshRow_70 : decode b_N_freshRow 70 = .ok (.iload_n 1, 1) := by decide +kernel
theorem d_N_freshRow_71 : decode b_N_freshRow 71 = .ok (.ireturn, 1) := by decide +kernel
theorem d_N_link_0 : decode b_N_link 0 = .ok (.iload_n 2, 1) := by decide +kernel
theorem d_N_link_1 : decode b_N_link 1 = .ok (.iload_n 3, 1) := by decide +kernel
theorem d_N_link_2 : decode b_N_link 2 = .ok (.iload 4, 2) := by decide +kernel
theorem d_N_link_4 : decode b_N_link 4 = .ok (.invokestatic 69, 3) := by decide +kernel
theorem d_N_link_7 : decode b_N_link 7 = .ok (.istore 5, 2) := by decide +kernel
theorem d_N_link_9 : decode b_N_link 9 = .ok (.iload_n 2, 1) := by decide +kernel
theorem d_N_link_10 : decode b_N_link 10 = .ok (.ifCond .lt 27, 3) := by decide +kernel
theorem d_N_link_13 : decode b_N_link 13 = .ok (.iload_n 2, 1) := by decide +kernel
theorem d_N_link_14 : decode b_N_link 14 = .ok (.aload_n 0, 1) := by decide +kernel
theorem d_N_link_15 : decode b_N_link 15 = .ok (.getfield 28, 3) := by decide +kernel
theorem d_N_link_18 : decode b_N_link 18 = .ok (.arraylength, 1) := by decide +kernel
theorem d_N_link_19 : decode b_N_link 19 = .ok (.if_icmp .ge 18, 3) := by decide +kernel
theorem d_N_link_22 : decode b_N_link 22 = .ok (.iload 5, 2) := by decide +kernel
theorem d_N_link_24 : decode b_N_link 24 = .ok (.ifCond .lt 13, 3) := by decide +kernel
theorem d_N_link_27 : decode b_N_link 27 = .ok (.iload 5, 2) := by decide +kernel
theorem d_N_link_29 : decode b_N_link 29 = .ok (.aload_n 0, 1) := by decide +kernel
theorem d_N_link_30 : decode b_N_link 30 = .ok (.getfield 25, 3) := by decide +kernel
theorem d_N_link_33 : decode b_N_link 33 = .ok (.arraylength, 1) := by decide +kernel
theorem d_N_link_34 : decode b_N_link 34 = .ok (.if_icmp .lt 4, 3) := by decide +kernel
theorem d_N_link_37 : decode b_N_link 37 = .ok (.return_, 1) := by decide +kernel
theorem d_N_link_38 : decode b_N_link 38 = .ok (.aload_n 0, 1) := by decide +kernel
theorem d_N_link_39 : decode b_N_link 39 = .ok (.iload_n 1, 1) := by decide +kernel
theorem d_N_link_40 : decode b_N_link 40 = .ok (.iconst 0, 1) := by decide +kernel
theorem d_N_link_41 : decode b_N_link 41 = .ok (.iload_n 2, 1) := by decide +kernel
theorem d_N_link_42 : decode b_N_link 42 = .ok (.invokevirtual 65, 3) := by decide +kernel
theorem d_N_link_45 : decode b_N_link 45 = .ok (.aload_n 0, 1) := by decide +kernel
theorem d_N_link_46 : decode b_N_link 46 = .ok (.iload_n 1, 1) := by decide +kernel
theorem d_N_link_47 : decode b_N_link 47 = .ok (.iconst 1, 1) := by decide +kernel
theorem d_N_link_48 : decode b_N_link 48 = .ok (.iload_n 3, 1) := by decide +kernel
theorem d_N_link_49 : decode b_N_link 49 = .ok (.invokevirtual 65, 3) := by decide +kernel
theorem d_N_link_52 : decode b_N_link 52 = .ok (.aload_n 0, 1) := by decide +kernel
theorem d_N_link_53 : decode b_N_link 53 = .ok (.iload_n 1, 1) := by decide +kernel
theorem d_N_link_54 : decode b_N_link 54 = .ok (.iconst 2, 1) := by decide +kernel
theorem d_N_link_55 : decode b_N_link 55 = .ok (.iload 4, 2) := by decide +kernel
theorem d_N_link_57 : decode b_N_link 57 = .ok (.invokevirtual 65, 3) := by decide +kernel
theorem d_N_link_60 : decode b_N_link 60 = .ok (.aload_n 0, 1) := by decide +kernel
theorem d_N_link_61 : decode b_N_link 61 = .ok (.iload_n 1, 1) := by decide +kernel
theorem d_N_link_62 : decode b_N_link 62 = .ok (.iconst 3, 1) := by decide +kernel
theorem d_N_link_63 : decode b_N_link 63 = .ok (.aload_n 0, 1) := by decide +kernel
theorem d_N_link_64 : decode b_N_link 64 = .ok (.getfield 25, 3) := by decide +kernel
theorem d_N_link_67 : decode b_N_link 67 = .ok (.iload 5, 2) := by decide +kernel
theorem d_N_link_69 : decode b_N_link 69 = .ok (.iaload, 1) := by decide +kernel
theorem d_N_link_70 : decode b_N_link 70 = .ok (.invokevirtual 65, 3) := by decide +kernel
theorem d_N_link_73 : decode b_N_link 73 = .ok (.aload_n 0, 1) := by decide +kernel
theorem d_N_link_74 : decode b_N_link 74 = .ok (.getfield 25, 3) := by decide +kernel
theorem d_N_link_77 : decode b_N_link 77 = .ok (.iload 5, 2) := by decide +kernel
theorem d_N_link_79 : decode b_N_link 79 = .ok (.iload_n 1, 1) := by decide +kernel
theorem d_N_link_80 : decode b_N_link 80 = .ok (.iastore, 1) := by decide +kernel
theorem d_N_link_81 : decode b_N_link 81 = .ok (.aload_n 0, 1) := by decide +kernel
theorem d_N_link_82 : decode b_N_link 82 = .ok (.getfield 28, 3) := by decide +kernel
theorem d_N_link_85 : decode b_N_link 85 = .ok (.iload_n 2, 1) := by decide +kernel
theorem d_N_link_86 : decode b_N_link 86 = .ok (.dup2, 1) := by decide +kernel
theorem d_N_link_87 : decode b_N_link 87 = .ok (.iaload, 1) := by decide +kernel
theorem d_N_link_88 : decode b_N_link 88 = .ok (.iconst 1, 1) := by decide +kernel
theorem d_N_link_89 : decode b_N_link 89 = .ok (.iadd, 1) := by decide +kernel
theorem d_N_link_90 : decode b_N_link 90 = .ok (.iastore, 1) := by decide +kernel
theorem d_N_link_91 : decode b_N_link 91 = .ok (.return_, 1) := by decide +kernel
theorem d_S_choose_0 : decode b_S_choose 0 = .ok (.iload_n 1, 1) := by decide +kernel
theorem d_S_choose_1 : decode b_S_choose 1 = .ok (.invokestatic 42, 3) := by decide +kernel
theorem d_S_choose_4 : decode b_S_choose 4 = .ok (.iload_n 2, 1) := by decide +kernel
theorem d_S_choose_5 : decode b_S_choose 5 = .ok (.invokestatic 42, 3) := by decide +kernel
theorem d_S_choose_8 : decode b_S_choose 8 = .ok (.iload_n 3, 1) := by decide +kernel
theorem d_S_choose_9 : decode b_S_choose 9 = .ok (.invokestatic 42, 3) := by decide +kernel
theorem d_S_choose_12 : decode b_S_choose 12 = .ok (.iload 4, 2) := by decide +kernel
theorem d_S_choose_14 : decode b_S_choose 14 = .ok (.invokestatic 42, 3) := by decide +kernel
theorem d_S_choose_17 : decode b_S_choose 17 = .ok (.aload_n 0, 1) := by decide +kernel
theorem d_S_choose_18 : decode b_S_choose 18 = .ok (.iload_n 1, 1) := by decide +kernel
theorem d_S_choose_19 : decode b_S_choose 19 = .ok (.aload_n 0, 1) := by decide +kernel
theorem d_S_choose_20 : decode b_S_choose 20 = .ok (.getfield 31, 3) := by decide +kernel
theorem d_S_choose_23 : decode b_S_choose 23 = .ok (.aload_n 0, 1) := by decide +kernel
theorem d_S_choose_24 : decode b_S_choose 24 = .ok (.getfield 9, 3) := by decide +kernel
theorem d_S_choose_27 : decode b_S_choose 27 = .ok (.iload_n 2, 1) := by decide +kernel
theorem d_S_choose_28 : decode b_S_choose 28 = .ok (.iaload, 1) := by decide +kernel
theorem d_S_choose_29 : decode b_S_choose 29 = .ok (.aload_n 0, 1) := by decide +kernel
theorem d_S_choose_30 : decode b_S_choose 30 = .ok (.getfield 9, 3) := by decide +kernel
theorem d_S_choose_33 : decode b_S_choose 33 = .ok (.iload_n 3, 1) := by decide +kernel
theorem d_S_choose_34 : decode b_S_choose 34 = .ok (.iaload, 1) := by decide +kernel
theorem d_S_choose_35 : decode b_S_choose 35 = .ok (.aload_n 0, 1) := by decide +kernel
theorem d_S_choose_36 : decode b_S_choose 36 = .ok (.getfield 9, 3) := by decide +kernel
theorem d_S_choose_39 : decode b_S_choose 39 = .ok (.iload 4, 2) := by decide +kernel
theorem d_S_choose_41 : decode b_S_choose 41 = .ok (.iaload, 1) := by decide +kernel
theorem d_S_choose_42 : decode b_S_choose 42 = .ok (.invokevirtual 58, 3) := by decide +kernel
theorem d_S_choose_45 : decode b_S_choose 45 = .ok (.invokevirtual 46, 3) := by decide +kernel
theorem d_S_choose_48 : decode b_S_choose 48 = .ok (.ireturn, 1) := by decide +kernel
theorem d_A_chosen_0 : decode b_A_chosen 0 = .ok (.aload_n 0, 1) := by decide +kernel
theorem d_A_chosen_1 : decode b_A_chosen 1 = .ok (.sipush 765, 3) := by decide +kernel
theorem d_A_chosen_4 : decode b_A_chosen 4 = .ok (.invokevirtual 31, 3) := by decide +kernel
theorem d_A_chosen_7 : decode b_A_chosen 7 = .ok (.aload_n 0, 1) := by decide +kernel
theorem d_A_chosen_8 : decode b_A_chosen 8 = .ok (.iload_n 1, 1) := by decide +kernel
theorem d_A_chosen_9 : decode b_A_chosen 9 = .ok (.iload_n 2, 1) := by decide +kernel
theorem d_A_chosen_10 : decode b_A_chosen 10 = .ok (.iload_n 3, 1) := by decide +kernel
theorem d_A_chosen_11 : decode b_A_chosen 11 = .ok (.iconst 0, 1) := by decide +kernel
theorem d_A_chosen_12 : decode b_A_chosen 12 = .ok (.invokevirtual 38, 3) := by decide +kernel
theorem d_A_chosen_15 : decode b_A_chosen 15 = .ok (.ireturn, 1) := by decide +kernel
theorem d_A_pick_0 : decode b_A_pick 0 = .ok (.iload_n 1, 1) := by decide +kernel
theorem d_A_pick_1 : decode b_A_pick 1 = .ok (.iconst 1, 1) := by decide +kernel
theorem d_A_pick_2 : decode b_A_pick 2 = .ok (.if_icmp .eq 8, 3) := by decide +kernel
theorem d_A_pick_5 : decode b_A_pick 5 = .ok (.iload_n 2, 1) := by decide +kernel
theorem d_A_pick_6 : decode b_A_pick 6 = .ok (.iload_n 3, 1) := by decide +kernel
theorem d_A_pick_7 : decode b_A_pick 7 = .ok (.if_icmp .ne 5, 3) := by decide +kernel
theorem d_A_pick_10 : decode b_A_pick 10 = .ok (.iload_n 2, 1) := by decide +kernel
theorem d_A_pick_11 : decode b_A_pick 11 = .ok (.ireturn, 1) := by decide +kernel
theorem d_A_pick_12 : decode b_A_pick 12 = .ok (.iload_n 1, 1) := by decide +kernel
theorem d_A_pick_13 : decode b_A_pick 13 = .ok (.ifCond .ne 5, 3) := by decide +kernel
theorem d_A_pick_16 : decode b_A_pick 16 = .ok (.iload_n 3, 1) := by decide +kernel
theorem d_A_pick_17 : decode b_A_pick 17 = .ok (.ireturn, 1) := by decide +kernel
theorem d_A_pick_18 : decode b_A_pick 18 = .ok (.iload_n 2, 1) := by decide +kernel
theorem d_A_pick_19 : decode b_A_pick 19 = .ok (.iconst 1, 1) := by decide +kernel
theorem d_A_pick_20 : decode b_A_pick 20 = .ok (.if_icmp .ne 7, 3) := by decide +kernel
theorem d_A_pick_23 : decode b_A_pick 23 = .ok (.iload_n 3, 1) := by decide +kernel
theorem d_A_pick_24 : decode b_A_pick 24 = .ok (.ifCond .eq 10, 3) := by decide +kernel
theorem d_A_pick_27 : decode b_A_pick 27 = .ok (.iload 4, 2) := by decide +kernel
theorem d_A_pick_29 : decode b_A_pick 29 = .ok (.bipush 12, 2) := by decide +kernel
theorem d_A_pick_31 : decode b_A_pick 31 = .ok (.if_icmp .lt 5, 3) := by decide +kernel
theorem d_A_pick_34 : decode b_A_pick 34 = .ok (.iload_n 1, 1) := by decide +kernel
theorem d_A_pick_35 : decode b_A_pick 35 = .ok (.ireturn, 1) := by decide +kernel
theorem d_A_pick_36 : decode b_A_pick 36 = .ok (.aload_n 0, 1) := by decide +kernel
theorem d_A_pick_37 : decode b_A_pick 37 = .ok (.getfield 18, 3) := by decide +kernel
theorem d_A_pick_40 : decode b_A_pick 40 = .ok (.iload_n 1, 1) := by decide +kernel
theorem d_A_pick_41 : decode b_A_pick 41 = .ok (.iload_n 2, 1) := by decide +kernel
theorem d_A_pick_42 : decode b_A_pick 42 = .ok (.iload_n 3, 1) := by decide +kernel
theorem d_A_pick_43 : decode b_A_pick 43 = .ok (.invokevirtual 53, 3) := by decide +kernel
theorem d_A_pick_46 : decode b_A_pick 46 = .ok (.istore 5, 2) := by decide +kernel
theorem d_A_pick_48 : decode b_A_pick 48 = .ok (.iload 5, 2) := by decide +kernel
theorem d_A_pick_50 : decode b_A_pick 50 = .ok (.iconst (-1), 1) := by decide +kernel
theorem d_A_pick_51 : decode b_A_pick 51 = .ok (.if_icmp .eq 6, 3) := by decide +kernel
theorem d_A_pick_54 : decode b_A_pick 54 = .ok (.iload 5, 2) := by decide +kernel
theorem d_A_pick_56 : decode b_A_pick 56 = .ok (.ireturn, 1) := by decide +kernel
theorem d_A_pick_57 : decode b_A_pick 57 = .ok (.aload_n 0, 1) := by decide +kernel
theorem d_A_pick_58 : decode b_A_pick 58 = .ok (.getfield 9, 3) := by decide +kernel
theorem d_A_pick_61 : decode b_A_pick 61 = .ok (.iload_n 1, 1) := by decide +kernel
theorem d_A_pick_62 : decode b_A_pick 62 = .ok (.iload_n 2, 1) := by decide +kernel
theorem d_A_pick_63 : decode b_A_pick 63 = .ok (.iload_n 3, 1) := by decide +kernel
theorem d_A_pick_64 : decode b_A_pick 64 = .ok (.invokevirtual 56, 3) := by decide +kernel
theorem d_A_pick_67 : decode b_A_pick 67 = .ok (.istore 6, 2) := by decide +kernel
theorem d_A_pick_69 : decode b_A_pick 69 = .ok (.aload_n 0, 1) := by decide +kernel
theorem d_A_pick_70 : decode b_A_pick 70 = .ok (.aload_n 0, 1) := by decide +kernel
theorem d_A_pick_71 : decode b_A_pick 71 = .ok (.getfield 9, 3) := by decide +kernel
theorem d_A_pick_74 : decode b_A_pick 74 = .ok (.iload_n 1, 1) := by decide +kernel
theorem d_A_pick_75 : decode b_A_pick 75 = .ok (.iload 6, 2) := by decide +kernel
theorem d_A_pick_77 : decode b_A_pick 77 = .ok (.invokevirtual 59, 3) := by decide +kernel
theorem d_A_pick_80 : decode b_A_pick 80 = .ok (.aload_n 0, 1) := by decide +kernel
theorem d_A_pick_81 : decode b_A_pick 81 = .ok (.getfield 9, 3) := by decide +kernel
theorem d_A_pick_84 : decode b_A_pick 84 = .ok (.iload_n 2, 1) := by decide +kernel
theorem d_A_pick_85 : decode b_A_pick 85 = .ok (.iload 6, 2) := by decide +kernel
theorem d_A_pick_87 : decode b_A_pick 87 = .ok (.invokevirtual 59, 3) := by decide +kernel
theorem d_A_pick_90 : decode b_A_pick 90 = .ok (.aload_n 0, 1) := by decide +kernel
theorem d_A_pick_91 : decode b_A_pick 91 = .ok (.getfield 9, 3) := by decide +kernel
theorem d_A_pick_94 : decode b_A_pick 94 = .ok (.iload_n 3, 1) := by decide +kernel
theorem d_A_pick_95 : decode b_A_pick 95 = .ok (.iload 6, 2) := by decide +kernel
theorem d_A_pick_97 : decode b_A_pick 97 = .ok (.invokevirtual 59, 3) := by decide +kernel
theorem d_A_pick_100 : decode b_A_pick 100 = .ok (.iload 4, 2) := by decide +kernel
theorem d_A_pick_102 : decode b_A_pick 102 = .ok (.iconst 1, 1) := by decide +kernel
theorem d_A_pick_103 : decode b_A_pick 103 = .ok (.iadd, 1) := by decide +kernel
theorem d_A_pick_104 : decode b_A_pick 104 = .ok (.invokevirtual 38, 3) := by decide +kernel
theorem d_A_pick_107 : decode b_A_pick 107 = .ok (.istore 7, 2) := by decide +kernel
theorem d_A_pick_109 : decode b_A_pick 109 = .ok (.aload_n 0, 1) := by decide +kernel
theorem d_A_pick_110 : decode b_A_pick 110 = .ok (.aload_n 0, 1) := by decide +kernel
theorem d_A_pick_111 : decode b_A_pick 111 = .ok (.getfield 9, 3) := by decide +kernel
theorem d_A_pick_114 : decode b_A_pick 114 = .ok (.iload_n 1, 1) := by decide +kernel
theorem d_A_pick_115 : decode b_A_pick 115 = .ok (.iload 6, 2) := by decide +kernel
theorem d_A_pick_117 : decode b_A_pick 117 = .ok (.invokevirtual 62, 3) := by decide +kernel
theorem d_A_pick_120 : decode b_A_pick 120 = .ok (.aload_n 0, 1) := by decide +kernel
theorem d_A_pick_121 : decode b_A_pick 121 = .ok (.getfield 9, 3) := by decide +kernel
theorem d_A_pick_124 : decode b_A_pick 124 = .ok (.iload_n 2, 1) := by decide +kernel
theorem d_A_pick_125 : decode b_A_pick 125 = .ok (.iload 6, 2) := by decide +kernel
theorem d_A_pick_127 : decode b_A_pick 127 = .ok (.invokevirtual 62, 3) := by decide +kernel
theorem d_A_pick_130 : decode b_A_pick 130 = .ok (.aload_n 0, 1) := by decide +kernel
theorem d_A_pick_131 : decode b_A_pick 131 = .ok (.getfield 9, 3) := by decide +kernel
theorem d_A_pick_134 : decode b_A_pick 134 = .ok (.iload_n 3, 1) := by decide +kernel
theorem d_A_pick_135 : decode b_A_pick 135 = .ok (.iload 6, 2) := by decide +kernel
theorem d_A_pick_137 : decode b_A_pick 137 = .ok (.invokevirtual 62, 3) := by decide +kernel
theorem d_A_pick_140 : decode b_A_pick 140 = .ok (.iload 4, 2) := by decide +kernel
theorem d_A_pick_142 : decode b_A_pick 142 = .ok (.iconst 1, 1) := by decide +kernel
theorem d_A_pick_143 : decode b_A_pick 143 = .ok (.iadd, 1) := by decide +kernel
theorem d_A_pick_144 : decode b_A_pick 144 = .ok (.invokevirtual 38, 3) := by decide +kernel
theorem d_A_pick_147 : decode b_A_pick 147 = .ok (.istore 8, 2) := by decide +kernel
theorem d_A_pick_149 : decode b_A_pick 149 = .ok (.aload_n 0, 1) := by decide +kernel
theorem d_A_pick_150 : decode b_A_pick 150 = .ok (.getfield 9, 3) := by decide +kernel
theorem d_A_pick_153 : decode b_A_pick 153 = .ok (.iload 6, 2) := by decide +kernel
theorem d_A_pick_155 : decode b_A_pick 155 = .ok (.iload 7, 2) := by decide +kernel
theorem d_A_pick_157 : decode b_A_pick 157 = .ok (.iload 8, 2) := by decide +kernel
theorem d_A_pick_159 : decode b_A_pick 159 = .ok (.invokevirtual 34, 3) := by decide +kernel
theorem d_A_pick_162 : decode b_A_pick 162 = .ok (.istore 9, 2) := by decide +kernel
theorem d_A_pick_164 : decode b_A_pick 164 = .ok (.aload_n 0, 1) := by decide +kernel
theorem d_A_pick_165 : decode b_A_pick 165 = .ok (.getfield 18, 3) := by decide +kernel
theorem d_A_pick_168 : decode b_A_pick 168 = .ok (.iload_n 1, 1) := by decide +kernel
theorem d_A_pick_169 : decode b_A_pick 169 = .ok (.iload_n 2, 1) := by decide +kernel
theorem d_A_pick_170 : decode b_A_pick 170 = .ok (.iload_n 3, 1) := by decide +kernel
theorem d_A_pick_171 : decode b_A_pick 171 = .ok (.iload 9, 2) := by decide +kernel
theorem d_A_pick_173 : decode b_A_pick 173 = .ok (.invokevirtual 65, 3) := by decide +kernel
theorem d_A_pick_176 : decode b_A_pick 176 = .ok (.iload 9, 2) := by decide +kernel
theorem d_A_pick_178 : decode b_A_pick 178 = .ok (.ireturn, 1) := by decide +kernel
theorem d_M_answerFor_0 : decode b_M_answerFor 0 = .ok (.iload_n 1, 1) := by decide +kernel
theorem d_M_answerFor_1 : decode b_M_answerFor 1 = .ok (.iload_n 2, 1) := by decide +kernel
theorem d_M_answerFor_2 : decode b_M_answerFor 2 = .ok (.iload_n 3, 1) := by decide +kernel
theorem d_M_answerFor_3 : decode b_M_answerFor 3 = .ok (.invokestatic 22, 3) := by decide +kernel
theorem d_M_answerFor_6 : decode b_M_answerFor 6 = .ok (.istore 4, 2) := by decide +kernel
theorem d_M_answerFor_8 : decode b_M_answerFor 8 = .ok (.iload 4, 2) := by decide +kernel
theorem d_M_answerFor_10 : decode b_M_answerFor 10 = .ok (.ifCond .lt 31, 3) := by decide +kernel
theorem d_M_answerFor_13 : decode b_M_answerFor 13 = .ok (.iload 4, 2) := by decide +kernel
theorem d_M_answerFor_15 : decode b_M_answerFor 15 = .ok (.iconst 5, 1) := by decide +kernel
theorem d_M_answerFor_16 : decode b_M_answerFor 16 = .ok (.iadd, 1) := by decide +kernel
theorem d_M_answerFor_17 : decode b_M_answerFor 17 = .ok (.aload_n 0, 1) := by decide +kernel
theorem d_M_answerFor_18 : decode b_M_answerFor 18 = .ok (.getfield 11, 3) := by decide +kernel
theorem d_M_answerFor_21 : decode b_M_answerFor 21 = .ok (.arraylength, 1) := by decide +kernel
theorem d_M_answerFor_22 : decode b_M_answerFor 22 = .ok (.if_icmp .gt 19, 3) := by decide +kernel
theorem d_M_answerFor_25 : decode b_M_answerFor 25 = .ok (.aload_n 0, 1) := by decide +kernel
theorem d_M_answerFor_26 : decode b_M_answerFor 26 = .ok (.getfield 11, 3) := by decide +kernel
theorem d_M_answerFor_29 : decode b_M_answerFor 29 = .ok (.iload 4, 2) := by decide +kernel
theorem d_M_answerFor_31 : decode b_M_answerFor 31 = .ok (.iconst 3, 1) := by decide +kernel
theorem d_M_answerFor_32 : decode b_M_answerFor 32 = .ok (.iadd, 1) := by decide +kernel
theorem d_M_answerFor_33 : decode b_M_answerFor 33 = .ok (.iaload, 1) := by decide +kernel
theorem d_M_answerFor_34 : decode b_M_answerFor 34 = .ok (.aload_n 0, 1) := by decide +kernel
theorem d_M_answerFor_35 : decode b_M_answerFor 35 = .ok (.getfield 15, 3) := by decide +kernel
theorem d_M_answerFor_38 : decode b_M_answerFor 38 = .ok (.if_icmp .eq 5, 3) := by decide +kernel
theorem d_M_answerFor_41 : decode b_M_answerFor 41 = .ok (.iconst (-1), 1) := by decide +kernel
theorem d_M_answerFor_42 : decode b_M_answerFor 42 = .ok (.ireturn, 1) := by decide +kernel
theorem d_M_answerFor_43 : decode b_M_answerFor 43 = .ok (.aload_n 0, 1) := by decide +kernel
theorem d_M_answerFor_44 : decode b_M_answerFor 44 = .ok (.getfield 11, 3) := by decide +kernel
theorem d_M_answerFor_47 : decode b_M_answerFor 47 = .ok (.iload 4, 2) := by decide +kernel
theorem d_M_answerFor_49 : decode b_M_answerFor 49 = .ok (.iaload, 1) := by decide +kernel
theorem d_M_answerFor_50 : decode b_M_answerFor 50 = .ok (.iload_n 1, 1) := by decide +kernel
theorem d_M_answerFor_51 : decode b_M_answerFor 51 = .ok (.if_icmp .ne 33, 3) := by decide +kernel
theorem d_M_answerFor_54 : decode b_M_answerFor 54 = .ok (.aload_n 0, 1) := by decide +kernel
theorem d_M_answerFor_55 : decode b_M_answerFor 55 = .ok (.getfield 11, 3) := by decide +kernel
theorem d_M_answerFor_58 : decode b_M_answerFor 58 = .ok (.iload 4, 2) := by decide +kernel
theorem d_M_answerFor_60 : decode b_M_answerFor 60 = .ok (.iconst 1, 1) := by decide +kernel
theorem d_M_answerFor_61 : decode b_M_answerFor 61 = .ok (.iadd, 1) := by decide +kernel
theorem d_M_answerFor_62 : decode b_M_answerFor 62 = .ok (.iaload, 1) := by decide +kernel
theorem d_M_answerFor_63 : decode b_M_answerFor 63 = .ok (.iload_n 2, 1) := by decide +kernel
theorem d_M_answerFor_64 : decode b_M_answerFor 64 = .ok (.if_icmp .ne 20, 3) := by decide +kernel
theorem d_M_answerFor_67 : decode b_M_answerFor 67 = .ok (.aload_n 0, 1) := by decide +kernel
theorem d_M_answerFor_68 : decode b_M_answerFor 68 = .ok (.getfield 11, 3) := by decide +kernel
theorem d_M_answerFor_71 : decode b_M_answerFor 71 = .ok (.iload 4, 2) := by decide +kernel
theorem d_M_answerFor_73 : decode b_M_answerFor 73 = .ok (.iconst 2, 1) := by decide +kernel
theorem d_M_answerFor_74 : decode b_M_answerFor 74 = .ok (.iadd, 1) := by decide +kernel
theorem d_M_answerFor_75 : decode b_M_answerFor 75 = .ok (.iaload, 1) := by decide +kernel
theorem d_M_answerFor_76 : decode b_M_answerFor 76 = .ok (.iload_n 3, 1) := by decide +kernel
theorem d_M_answerFor_77 : decode b_M_answerFor 77 = .ok (.if_icmp .ne 7, 3) := by decide +kernel
theorem d_M_answerFor_80 : decode b_M_answerFor 80 = .ok (.iconst 1, 1) := by decide +kernel
theorem d_M_answerFor_81 : decode b_M_answerFor 81 = .ok (.goto 4, 3) := by decide +kernel
theorem d_M_answerFor_84 : decode b_M_answerFor 84 = .ok (.iconst 0, 1) := by decide +kernel
theorem d_M_answerFor_85 : decode b_M_answerFor 85 = .ok (.istore 5, 2) := by decide +kernel
theorem d_M_answerFor_87 : decode b_M_answerFor 87 = .ok (.iload 5, 2) := by decide +kernel
theorem d_M_answerFor_89 : decode b_M_answerFor 89 = .ok (.ifCond .eq 15, 3) := by decide +kernel
theorem d_M_answerFor_92 : decode b_M_answerFor 92 = .ok (.aload_n 0, 1) := by decide +kernel
theorem d_M_answerFor_93 : decode b_M_answerFor 93 = .ok (.getfield 11, 3) := by decide +kernel
theorem d_M_answerFor_96 : decode b_M_answerFor 96 = .ok (.iload 4, 2) := by decide +kernel
theorem d_M_answerFor_98 : decode b_M_answerFor 98 = .ok (.iconst 4, 1) := by decide +kernel
theorem d_M_answerFor_99 : decode b_M_answerFor 99 = .ok (.iadd, 1) := by decide +kernel
theorem d_M_answerFor_100 : decode b_M_answerFor 100 = .ok (.iaload, 1) := by decide +kernel
theorem d_M_answerFor_101 : decode b_M_answerFor 101 = .ok (.goto 4, 3) := by decide +kernel
theorem d_M_answerFor_104 : decode b_M_answerFor 104 = .ok (.iconst (-1), 1) := by decide +kernel
theorem d_M_answerFor_105 : decode b_M_answerFor 105 = .ok (.ireturn, 1) := by decide +kernel
theorem d_M_placeFor_0 : decode b_M_placeFor 0 = .ok (.iload_n 0, 1) := by decide +kernel
theorem d_M_placeFor_1 : decode b_M_placeFor 1 = .ok (.ldc 19, 2) := by decide +kernel
theorem d_M_placeFor_3 : decode b_M_placeFor 3 = .ok (.imul, 1) := by decide +kernel
theorem d_M_placeFor_4 : decode b_M_placeFor 4 = .ok (.iload_n 1, 1) := by decide +kernel
theorem d_M_placeFor_5 : decode b_M_placeFor 5 = .ok (.ldc 20, 2) := by decide +kernel
theorem d_M_placeFor_7 : decode b_M_placeFor 7 = .ok (.imul, 1) := by decide +kernel
theorem d_M_placeFor_8 : decode b_M_placeFor 8 = .ok (.iadd, 1) := by decide +kernel
theorem d_M_placeFor_9 : decode b_M_placeFor 9 = .ok (.iload_n 2, 1) := by decide +kernel
theorem d_M_placeFor_10 : decode b_M_placeFor 10 = .ok (.ldc 21, 2) := by decide +kernel
theorem d_M_placeFor_12 : decode b_M_placeFor 12 = .ok (.imul, 1) := by decide +kernel
theorem d_M_placeFor_13 : decode b_M_placeFor 13 = .ok (.iadd, 1) := by decide +kernel
theorem d_M_placeFor_14 : decode b_M_placeFor 14 = .ok (.istore_n 3, 1) := by decide +kernel
theorem d_M_placeFor_15 : decode b_M_placeFor 15 = .ok (.iload_n 3, 1) := by decide +kernel
theorem d_M_placeFor_16 : decode b_M_placeFor 16 = .ok (.bipush 20, 2) := by decide +kernel
theorem d_M_placeFor_18 : decode b_M_placeFor 18 = .ok (.iushr, 1) := by decide +kernel
theorem d_M_placeFor_19 : decode b_M_placeFor 19 = .ok (.sipush 1023, 3) := by decide +kernel
theorem d_M_placeFor_22 : decode b_M_placeFor 22 = .ok (.iand, 1) := by decide +kernel
theorem d_M_placeFor_23 : decode b_M_placeFor 23 = .ok (.iconst 5, 1) := by decide +kernel
theorem d_M_placeFor_24 : decode b_M_placeFor 24 = .ok (.imul, 1) := by decide +kernel
theorem d_M_placeFor_25 : decode b_M_placeFor 25 = .ok (.ireturn, 1) := by decide +kernel
theorem d_N_firstAsked_0 : decode b_N_firstAsked 0 = .ok (.aload_n 0, 1) := by decide +kernel
theorem d_N_firstAsked_1 : decode b_N_firstAsked 1 = .ok (.aload_n 0, 1) := by decide +kernel
theorem d_N_firstAsked_2 : decode b_N_firstAsked 2 = .ok (.iload_n 1, 1) := by decide +kernel
theorem d_N_firstAsked_3 : decode b_N_firstAsked 3 = .ok (.invokevirtual 50, 3) := by decide +kernel
theorem d_N_firstAsked_6 : decode b_N_firstAsked 6 = .ok (.invokevirtual 54, 3) := by decide +kernel
theorem d_N_firstAsked_9 : decode b_N_firstAsked 9 = .ok (.aload_n 0, 1) := by decide +kernel
theorem d_N_firstAsked_10 : decode b_N_firstAsked 10 = .ok (.aload_n 0, 1) := by decide +kernel
theorem d_N_firstAsked_11 : decode b_N_firstAsked 11 = .ok (.iload_n 2, 1) := by decide +kernel
theorem d_N_firstAsked_12 : decode b_N_firstAsked 12 = .ok (.invokevirtual 50, 3) := by decide +kernel
theorem d_N_firstAsked_15 : decode b_N_firstAsked 15 = .ok (.invokevirtual 54, 3) := by decide +kernel
theorem d_N_firstAsked_18 : decode b_N_firstAsked 18 = .ok (.invokestatic 57, 3) := by decide +kernel
theorem d_N_firstAsked_21 : decode b_N_firstAsked 21 = .ok (.istore 4, 2) := by decide +kernel
theorem d_N_firstAsked_23 : decode b_N_firstAsked 23 = .ok (.aload_n 0, 1) := by decide +kernel
theorem d_N_firstAsked_24 : decode b_N_firstAsked 24 = .ok (.iload 4, 2) := by decide +kernel
theorem d_N_firstAsked_26 : decode b_N_firstAsked 26 = .ok (.aload_n 0, 1) := by decide +kernel
theorem d_N_firstAsked_27 : decode b_N_firstAsked 27 = .ok (.aload_n 0, 1) := by decide +kernel
theorem d_N_firstAsked_28 : decode b_N_firstAsked 28 = .ok (.iload_n 3, 1) := by decide +kernel
theorem d_N_firstAsked_29 : decode b_N_firstAsked 29 = .ok (.invokevirtual 50, 3) := by decide +kernel
theorem d_N_firstAsked_32 : decode b_N_firstAsked 32 = .ok (.invokevirtual 54, 3) := by decide +kernel
theorem d_N_firstAsked_35 : decode b_N_firstAsked 35 = .ok (.invokestatic 57, 3) := by decide +kernel
theorem d_N_firstAsked_38 : decode b_N_firstAsked 38 = .ok (.invokevirtual 62, 3) := by decide +kernel
theorem d_N_firstAsked_41 : decode b_N_firstAsked 41 = .ok (.ireturn, 1) := by decide +kernel
theorem d_N_lowFor_0 : decode b_N_lowFor 0 = .ok (.aload_n 0, 1) := by decide +kernel
theorem d_N_lowFor_1 : decode b_N_lowFor 1 = .ok (.iload_n 1, 1) := by decide +kernel
theorem d_N_lowFor_2 : decode b_N_lowFor 2 = .ok (.iconst 0, 1) := by decide +kernel
theorem d_N_lowFor_3 : decode b_N_lowFor 3 = .ok (.invokevirtual 46, 3) := by decide +kernel
theorem d_N_lowFor_6 : decode b_N_lowFor 6 = .ok (.iload_n 2, 1) := by decide +kernel
theorem d_N_lowFor_7 : decode b_N_lowFor 7 = .ok (.if_icmp .ne 12, 3) := by decide +kernel
theorem d_N_lowFor_10 : decode b_N_lowFor 10 = .ok (.aload_n 0, 1) := by decide +kernel
theorem d_N_lowFor_11 : decode b_N_lowFor 11 = .ok (.iload_n 1, 1) := by decide +kernel
theorem d_N_lowFor_12 : decode b_N_lowFor 12 = .ok (.iconst 1, 1) := by decide +kernel
theorem d_N_lowFor_13 : decode b_N_lowFor 13 = .ok (.invokevirtual 46, 3) := by decide +kernel
theorem d_N_lowFor_16 : decode b_N_lowFor 16 = .ok (.goto 4, 3) := by decide +kernel
theorem d_N_lowFor_19 : decode b_N_lowFor 19 = .ok (.iload_n 1, 1) := by decide +kernel
theorem d_N_lowFor_20 : decode b_N_lowFor 20 = .ok (.ireturn, 1) := by decide +kernel
theorem d_N_highFor_0 : decode b_N_highFor 0 = .ok (.aload_n 0, 1) := by decide +kernel
theorem d_N_highFor_1 : decode b_N_highFor 1 = .ok (.iload_n 1, 1) := by decide +kernel
theorem d_N_highFor_2 : decode b_N_highFor 2 = .ok (.iconst 0, 1) := by decide +kernel
theorem d_N_highFor_3 : decode b_N_highFor 3 = .ok (.invokevirtual 46, 3) := by decide +kernel
theorem d_N_highFor_6 : decode b_N_highFor 6 = .ok (.iload_n 2, 1) := by decide +kernel
theorem d_N_highFor_7 : decode b_N_highFor 7 = .ok (.if_icmp .ne 12, 3) := by decide +kernel
theorem d_N_highFor_10 : decode b_N_highFor 10 = .ok (.aload_n 0, 1) := by decide +kernel
theorem d_N_highFor_11 : decode b_N_highFor 11 = .ok (.iload_n 1, 1) := by decide +kernel
theorem d_N_highFor_12 : decode b_N_highFor 12 = .ok (.iconst 2, 1) := by decide +kernel
theorem d_N_highFor_13 : decode b_N_highFor 13 = .ok (.invokevirtual 46, 3) := by decide +kernel
theorem d_N_highFor_16 : decode b_N_highFor 16 = .ok (.goto 4, 3) := by decide +kernel
theorem d_N_highFor_19 : decode b_N_highFor 19 = .ok (.iload_n 1, 1) := by decide +kernel
theorem d_N_highFor_20 : decode b_N_highFor 20 = .ok (.ireturn, 1) := by decide +kernel
theorem d_M_keep_0 : decode b_M_keep 0 = .ok (.iload_n 1, 1) := by decide +kernel
theorem d_M_keep_1 : decode b_M_keep 1 = .ok (.iload_n 2, 1) := by decide +kernel
theorem d_M_keep_2 : decode b_M_keep 2 = .ok (.iload_n 3, 1) := by decide +kernel
theorem d_M_keep_3 : decode b_M_keep 3 = .ok (.invokestatic 22, 3) := by decide +kernel
theorem d_M_keep_6 : decode b_M_keep 6 = .ok (.istore 5, 2) := by decide +kernel
theorem d_M_keep_8 : decode b_M_keep 8 = .ok (.iload 5, 2) := by decide +kernel
theorem d_M_keep_10 : decode b_M_keep 10 = .ok (.ifCond .lt 15, 3) := by decide +kernel
theorem d_M_keep_13 : decode b_M_keep 13 = .ok (.iload 5, 2) := by decide +kernel
theorem d_M_keep_15 : decode b_M_keep 15 = .ok (.iconst 5, 1) := by decide +kernel
theorem d_M_keep_16 : decode b_M_keep 16 = .ok (.iadd, 1) := by decide +kernel
theorem d_M_keep_17 : decode b_M_keep 17 = .ok (.aload_n 0, 1) := by decide +kernel
theorem d_M_keep_18 : decode b_M_keep 18 = .ok (.getfield 11, 3) := by decide +kernel
theorem d_M_keep_21 : decode b_M_keep 21 = .ok (.arraylength, 1) := by decide +kernel
theorem d_M_keep_22 : decode b_M_keep 22 = .ok (.if_icmp .le 4, 3) := by decide +kernel
theorem d_M_keep_25 : decode b_M_keep 25 = .ok (.return_, 1) := by decide +kernel
theorem d_M_keep_26 : decode b_M_keep 26 = .ok (.aload_n 0, 1) := by decide +kernel
theorem d_M_keep_27 : decode b_M_keep 27 = .ok (.getfield 11, 3) := by decide +kernel
theorem d_M_keep_30 : decode b_M_keep 30 = .ok (.iload 5, 2) := by decide +kernel
theorem d_M_keep_32 : decode b_M_keep 32 = .ok (.iload_n 1, 1) := by decide +kernel
theorem d_M_keep_33 : decode b_M_keep 33 = .ok (.iastore, 1) := by decide +kernel
theorem d_M_keep_34 : decode b_M_keep 34 = .ok (.aload_n 0, 1) := by decide +kernel
theorem d_M_keep_35 : decode b_M_keep 35 = .ok (.getfield 11, 3) := by decide +kernel
theorem d_M_keep_38 : decode b_M_keep 38 = .ok (.iload 5, 2) := by decide +kernel
theorem d_M_keep_40 : decode b_M_keep 40 = .ok (.iconst 1, 1) := by decide +kernel
theorem d_M_keep_41 : decode b_M_keep 41 = .ok (.iadd, 1) := by decide +kernel
theorem d_M_keep_42 : decode b_M_keep 42 = .ok (.iload_n 2, 1) := by decide +kernel
theorem d_M_keep_43 : decode b_M_keep 43 = .ok (.iastore, 1) := by decide +kernel
theorem d_M_keep_44 : decode b_M_keep 44 = .ok (.aload_n 0, 1) := by decide +kernel
theorem d_M_keep_45 : decode b_M_keep 45 = .ok (.getfield 11, 3) := by decide +kernel
theorem d_M_keep_48 : decode b_M_keep 48 = .ok (.iload 5, 2) := by decide +kernel
theorem d_M_keep_50 : decode b_M_keep 50 = .ok (.iconst 2, 1) := by decide +kernel
theorem d_M_keep_51 : decode b_M_keep 51 = .ok (.iadd, 1) := by decide +kernel
theorem d_M_keep_52 : decode b_M_keep 52 = .ok (.iload_n 3, 1) := by decide +kernel
theorem d_M_keep_53 : decode b_M_keep 53 = .ok (.iastore, 1) := by decide +kernel
theorem d_M_keep_54 : decode b_M_keep 54 = .ok (.aload_n 0, 1) := by decide +kernel
theorem d_M_keep_55 : decode b_M_keep 55 = .ok (.getfield 11, 3) := by decide +kernel
theorem d_M_keep_58 : decode b_M_keep 58 = .ok (.iload 5, 2) := by decide +kernel
theorem d_M_keep_60 : decode b_M_keep 60 = .ok (.iconst 3, 1) := by decide +kernel
theorem d_M_keep_61 : decode b_M_keep 61 = .ok (.iadd, 1) := by decide +kernel
theorem d_M_keep_62 : decode b_M_keep 62 = .ok (.aload_n 0, 1) := by decide +kernel
theorem d_M_keep_63 : decode b_M_keep 63 = .ok (.getfield 15, 3) := by decide +kernel
theorem d_M_keep_66 : decode b_M_keep 66 = .ok (.iastore, 1) := by decide +kernel
theorem d_M_keep_67 : decode b_M_keep 67 = .ok (.aload_n 0, 1) := by decide +kernel
theorem d_M_keep_68 : decode b_M_keep 68 = .ok (.getfield 11, 3) := by decide +kernel
theorem d_M_keep_71 : decode b_M_keep 71 = .ok (.iload 5, 2) := by decide +kernel
theorem d_M_keep_73 : decode b_M_keep 73 = .ok (.iconst 4, 1) := by decide +kernel
theorem d_M_keep_74 : decode b_M_keep 74 = .ok (.iadd, 1) := by decide +kernel
theorem d_M_keep_75 : decode b_M_keep 75 = .ok (.iload 4, 2) := by decide +kernel
theorem d_M_keep_77 : decode b_M_keep 77 = .ok (.iastore, 1) := by decide +kernel
theorem d_M_keep_78 : decode b_M_keep 78 = .ok (.return_, 1) := by decide +kernel
theorem d_S_join_0 : decode b_S_join 0 = .ok (.iload_n 1, 1) := by decide +kernel
theorem d_S_join_1 : decode b_S_join 1 = .ok (.invokestatic 42, 3) := by decide +kernel
theorem d_S_join_4 : decode b_S_join 4 = .ok (.iload_n 2, 1) := by decide +kernel
theorem d_S_join_5 : decode b_S_join 5 = .ok (.iconst 5, 1) := by decide +kernel
theorem d_S_join_6 : decode b_S_join 6 = .ok (.invokestatic 50, 3) := by decide +kernel
theorem d_S_join_9 : decode b_S_join 9 = .ok (.iload_n 3, 1) := by decide +kernel
theorem d_S_join_10 : decode b_S_join 10 = .ok (.invokestatic 42, 3) := by decide +kernel
theorem d_S_join_13 : decode b_S_join 13 = .ok (.iload 4, 2) := by decide +kernel
theorem d_S_join_15 : decode b_S_join 15 = .ok (.invokestatic 42, 3) := by decide +kernel
theorem d_S_join_18 : decode b_S_join 18 = .ok (.aload_n 0, 1) := by decide +kernel
theorem d_S_join_19 : decode b_S_join 19 = .ok (.iload_n 1, 1) := by decide +kernel
theorem d_S_join_20 : decode b_S_join 20 = .ok (.aload_n 0, 1) := by decide +kernel
theorem d_S_join_21 : decode b_S_join 21 = .ok (.getfield 31, 3) := by decide +kernel
theorem d_S_join_24 : decode b_S_join 24 = .ok (.iload_n 2, 1) := by decide +kernel
theorem d_S_join_25 : decode b_S_join 25 = .ok (.aload_n 0, 1) := by decide +kernel
theorem d_S_join_26 : decode b_S_join 26 = .ok (.getfield 9, 3) := by decide +kernel
theorem d_S_join_29 : decode b_S_join 29 = .ok (.iload_n 3, 1) := by decide +kernel
theorem d_S_join_30 : decode b_S_join 30 = .ok (.iaload, 1) := by decide +kernel
theorem d_S_join_31 : decode b_S_join 31 = .ok (.aload_n 0, 1) := by decide +kernel
theorem d_S_join_32 : decode b_S_join 32 = .ok (.getfield 9, 3) := by decide +kernel
theorem d_S_join_35 : decode b_S_join 35 = .ok (.iload 4, 2) := by decide +kernel
theorem d_S_join_37 : decode b_S_join 37 = .ok (.iaload, 1) := by decide +kernel
theorem d_S_join_38 : decode b_S_join 38 = .ok (.invokevirtual 62, 3) := by decide +kernel
theorem d_S_join_41 : decode b_S_join 41 = .ok (.invokevirtual 46, 3) := by decide +kernel
theorem d_S_join_44 : decode b_S_join 44 = .ok (.ireturn, 1) := by decide +kernel
theorem d_A_joined_0 : decode b_A_joined 0 = .ok (.aload_n 0, 1) := by decide +kernel
theorem d_A_joined_1 : decode b_A_joined 1 = .ok (.sipush 1530, 3) := by decide +kernel
theorem d_A_joined_4 : decode b_A_joined 4 = .ok (.invokevirtual 31, 3) := by decide +kernel
theorem d_A_joined_7 : decode b_A_joined 7 = .ok (.iload_n 1, 1) := by decide +kernel
theorem d_A_joined_8 : decode b_A_joined 8 = .ok (.tableswitch 75 0 3 #[32, 41, 50, 66], 32) := by decide +kernel
theorem d_A_joined_40 : decode b_A_joined 40 = .ok (.aload_n 0, 1) := by decide +kernel
theorem d_A_joined_41 : decode b_A_joined 41 = .ok (.iload_n 2, 1) := by decide +kernel
theorem d_A_joined_42 : decode b_A_joined 42 = .ok (.iload_n 3, 1) := by decide +kernel
theorem d_A_joined_43 : decode b_A_joined 43 = .ok (.iconst 0, 1) := by decide +kernel
theorem d_A_joined_44 : decode b_A_joined 44 = .ok (.iconst 0, 1) := by decide +kernel
theorem d_A_joined_45 : decode b_A_joined 45 = .ok (.invokevirtual 38, 3) := by decide +kernel
theorem d_A_joined_48 : decode b_A_joined 48 = .ok (.ireturn, 1) := by decide +kernel
theorem d_A_joined_49 : decode b_A_joined 49 = .ok (.aload_n 0, 1) := by decide +kernel
theorem d_A_joined_50 : decode b_A_joined 50 = .ok (.iload_n 2, 1) := by decide +kernel
theorem d_A_joined_51 : decode b_A_joined 51 = .ok (.iconst 1, 1) := by decide +kernel
theorem d_A_joined_52 : decode b_A_joined 52 = .ok (.iload_n 3, 1) := by decide +kernel
theorem d_A_joined_53 : decode b_A_joined 53 = .ok (.iconst 0, 1) := by decide +kernel
theorem d_A_joined_54 : decode b_A_joined 54 = .ok (.invokevirtual 38, 3) := by decide +kernel
theorem d_A_joined_57 : decode b_A_joined 57 = .ok (.ireturn, 1) := by decide +kernel
theorem d_A_joined_58 : decode b_A_joined 58 = .ok (.aload_n 0, 1) := by decide +kernel
theorem d_A_joined_59 : decode b_A_joined 59 = .ok (.iload_n 2, 1) := by decide +kernel
theorem d_A_joined_60 : decode b_A_joined 60 = .ok (.aload_n 0, 1) := by decide +kernel
theorem d_A_joined_61 : decode b_A_joined 61 = .ok (.iload_n 3, 1) := by decide +kernel
theorem d_A_joined_62 : decode b_A_joined 62 = .ok (.iconst 0, 1) := by decide +kernel
theorem d_A_joined_63 : decode b_A_joined 63 = .ok (.iconst 1, 1) := by decide +kernel
theorem d_A_joined_64 : decode b_A_joined 64 = .ok (.iconst 0, 1) := by decide +kernel
theorem d_A_joined_65 : decode b_A_joined 65 = .ok (.invokevirtual 38, 3) := by decide +kernel
theorem d_A_joined_68 : decode b_A_joined 68 = .ok (.iload_n 3, 1) := by decide +kernel
theorem d_A_joined_69 : decode b_A_joined 69 = .ok (.iconst 0, 1) := by decide +kernel
theorem d_A_joined_70 : decode b_A_joined 70 = .ok (.invokevirtual 38, 3) := by decide +kernel
theorem d_A_joined_73 : decode b_A_joined 73 = .ok (.ireturn, 1) := by decide +kernel
theorem d_A_joined_74 : decode b_A_joined 74 = .ok (.aload_n 0, 1) := by decide +kernel
theorem d_A_joined_75 : decode b_A_joined 75 = .ok (.iload_n 3, 1) := by decide +kernel
theorem d_A_joined_76 : decode b_A_joined 76 = .ok (.iconst 0, 1) := by decide +kernel
theorem d_A_joined_77 : decode b_A_joined 77 = .ok (.iload_n 2, 1) := by decide +kernel
theorem d_A_joined_78 : decode b_A_joined 78 = .ok (.iconst 0, 1) := by decide +kernel
theorem d_A_joined_79 : decode b_A_joined 79 = .ok (.invokevirtual 38, 3) := by decide +kernel
theorem d_A_joined_82 : decode b_A_joined 82 = .ok (.ireturn, 1) := by decide +kernel
theorem d_A_joined_83 : decode b_A_joined 83 = .ok (.aload_n 0, 1) := by decide +kernel
theorem d_A_joined_84 : decode b_A_joined 84 = .ok (.iload_n 2, 1) := by decide +kernel
theorem d_A_joined_85 : decode b_A_joined 85 = .ok (.iconst 0, 1) := by decide +kernel
theorem d_A_joined_86 : decode b_A_joined 86 = .ok (.iconst 1, 1) := by decide +kernel
theorem d_A_joined_87 : decode b_A_joined 87 = .ok (.iconst 0, 1) := by decide +kernel
theorem d_A_joined_88 : decode b_A_joined 88 = .ok (.invokevirtual 38, 3) := by decide +kernel
theorem d_A_joined_91 : decode b_A_joined 91 = .ok (.ireturn, 1) := by decide +kernel
theorem d_S_some_0 : decode b_S_some 0 = .ok (.iload_n 1, 1) := by decide +kernel
theorem d_S_some_1 : decode b_S_some 1 = .ok (.invokestatic 42, 3) := by decide +kernel
theorem d_S_some_4 : decode b_S_some 4 = .ok (.iload_n 2, 1) := by decide +kernel
theorem d_S_some_5 : decode b_S_some 5 = .ok (.invokestatic 42, 3) := by decide +kernel
theorem d_S_some_8 : decode b_S_some 8 = .ok (.iload_n 3, 1) := by decide +kernel
theorem d_S_some_9 : decode b_S_some 9 = .ok (.invokestatic 42, 3) := by decide +kernel
theorem d_S_some_12 : decode b_S_some 12 = .ok (.iload 4, 2) := by decide +kernel
theorem d_S_some_14 : decode b_S_some 14 = .ok (.sipush 4096, 3) := by decide +kernel
theorem d_S_some_17 : decode b_S_some 17 = .ok (.invokestatic 50, 3) := by decide +kernel
theorem d_S_some_20 : decode b_S_some 20 = .ok (.aload_n 0, 1) := by decide +kernel
theorem d_S_some_21 : decode b_S_some 21 = .ok (.iload_n 1, 1) := by decide +kernel
theorem d_S_some_22 : decode b_S_some 22 = .ok (.aload_n 0, 1) := by decide +kernel
theorem d_S_some_23 : decode b_S_some 23 = .ok (.getfield 31, 3) := by decide +kernel
theorem d_S_some_26 : decode b_S_some 26 = .ok (.aload_n 0, 1) := by decide +kernel
theorem d_S_some_27 : decode b_S_some 27 = .ok (.getfield 9, 3) := by decide +kernel
theorem d_S_some_30 : decode b_S_some 30 = .ok (.iload_n 2, 1) := by decide +kernel
theorem d_S_some_31 : decode b_S_some 31 = .ok (.iaload, 1) := by decide +kernel
theorem d_S_some_32 : decode b_S_some 32 = .ok (.aload_n 0, 1) := by decide +kernel
theorem d_S_some_33 : decode b_S_some 33 = .ok (.getfield 9, 3) := by decide +kernel
theorem d_S_some_36 : decode b_S_some 36 = .ok (.iload_n 3, 1) := by decide +kernel
theorem d_S_some_37 : decode b_S_some 37 = .ok (.iaload, 1) := by decide +kernel
theorem d_S_some_38 : decode b_S_some 38 = .ok (.iload 4, 2) := by decide +kernel
theorem d_S_some_40 : decode b_S_some 40 = .ok (.invokevirtual 65, 3) := by decide +kernel
theorem d_S_some_43 : decode b_S_some 43 = .ok (.invokevirtual 46, 3) := by decide +kernel
theorem d_S_some_46 : decode b_S_some 46 = .ok (.ireturn, 1) := by decide +kernel
theorem d_A_bothForSome_0 : decode b_A_bothForSome 0 = .ok (.aload_n 0, 1) := by decide +kernel
theorem d_A_bothForSome_1 : decode b_A_bothForSome 1 = .ok (.sipush 3323, 3) := by decide +kernel
theorem d_A_bothForSome_4 : decode b_A_bothForSome 4 = .ok (.invokevirtual 31, 3) := by decide +kernel
theorem d_A_bothForSome_7 : decode b_A_bothForSome 7 = .ok (.aload_n 0, 1) := by decide +kernel
theorem d_A_bothForSome_8 : decode b_A_bothForSome 8 = .ok (.aload_n 0, 1) := by decide +kernel
theorem d_A_bothForSome_9 : decode b_A_bothForSome 9 = .ok (.iload_n 1, 1) := by decide +kernel
theorem d_A_bothForSome_10 : decode b_A_bothForSome 10 = .ok (.iload_n 2, 1) := by decide +kernel
theorem d_A_bothForSome_11 : decode b_A_bothForSome 11 = .ok (.iconst 0, 1) := by decide +kernel
theorem d_A_bothForSome_12 : decode b_A_bothForSome 12 = .ok (.iconst 0, 1) := by decide +kernel
theorem d_A_bothForSome_13 : decode b_A_bothForSome 13 = .ok (.invokevirtual 38, 3) := by decide +kernel
theorem d_A_bothForSome_16 : decode b_A_bothForSome 16 = .ok (.iload_n 3, 1) := by decide +kernel
theorem d_A_bothForSome_17 : decode b_A_bothForSome 17 = .ok (.iconst 0, 1) := by decide +kernel
theorem d_A_bothForSome_18 : decode b_A_bothForSome 18 = .ok (.invokevirtual 42, 3) := by decide +kernel
theorem d_A_bothForSome_21 : decode b_A_bothForSome 21 = .ok (.ireturn, 1) := by decide +kernel
theorem d_A_freed_0 : decode b_A_freed 0 = .ok (.iload_n 1, 1) := by decide +kernel
theorem d_A_freed_1 : decode b_A_freed 1 = .ok (.iconst 1, 1) := by decide +kernel
theorem d_A_freed_2 : decode b_A_freed 2 = .ok (.if_icmp .le 9, 3) := by decide +kernel
theorem d_A_freed_5 : decode b_A_freed 5 = .ok (.iload_n 3, 1) := by decide +kernel
theorem d_A_freed_6 : decode b_A_freed 6 = .ok (.bipush 12, 2) := by decide +kernel
theorem d_A_freed_8 : decode b_A_freed 8 = .ok (.if_icmp .lt 5, 3) := by decide +kernel
theorem d_A_freed_11 : decode b_A_freed 11 = .ok (.iload_n 1, 1) := by decide +kernel
theorem d_A_freed_12 : decode b_A_freed 12 = .ok (.ireturn, 1) := by decide +kernel
theorem d_A_freed_13 : decode b_A_freed 13 = .ok (.aload_n 0, 1) := by decide +kernel
theorem d_A_freed_14 : decode b_A_freed 14 = .ok (.getfield 18, 3) := by decide +kernel
theorem d_A_freed_17 : decode b_A_freed 17 = .ok (.iload_n 1, 1) := by decide +kernel
theorem d_A_freed_18 : decode b_A_freed 18 = .ok (.iload_n 2, 1) := by decide +kernel
theorem d_A_freed_19 : decode b_A_freed 19 = .ok (.iconst (-1), 1) := by decide +kernel
theorem d_A_freed_20 : decode b_A_freed 20 = .ok (.invokevirtual 53, 3) := by decide +kernel
theorem d_A_freed_23 : decode b_A_freed 23 = .ok (.istore 4, 2) := by decide +kernel
theorem d_A_freed_25 : decode b_A_freed 25 = .ok (.iload 4, 2) := by decide +kernel
theorem d_A_freed_27 : decode b_A_freed 27 = .ok (.iconst (-1), 1) := by decide +kernel
theorem d_A_freed_28 : decode b_A_freed 28 = .ok (.if_icmp .eq 6, 3) := by decide +kernel
theorem d_A_freed_31 : decode b_A_freed 31 = .ok (.iload 4, 2) := by decide +kernel
theorem d_A_freed_33 : decode b_A_freed 33 = .ok (.ireturn, 1) := by decide +kernel
theorem d_A_freed_34 : decode b_A_freed 34 = .ok (.aload_n 0, 1) := by decide +kernel
theorem d_A_freed_35 : decode b_A_freed 35 = .ok (.getfield 9, 3) := by decide +kernel
theorem d_A_freed_38 : decode b_A_freed 38 = .ok (.iload_n 1, 1) := by decide +kernel
theorem d_A_freed_39 : decode b_A_freed 39 = .ok (.invokevirtual 69, 3) := by decide +kernel
theorem d_A_freed_42 : decode b_A_freed 42 = .ok (.istore 5, 2) := by decide +kernel
theorem d_A_freed_44 : decode b_A_freed 44 = .ok (.aload_n 0, 1) := by decide +kernel
theorem d_A_freed_45 : decode b_A_freed 45 = .ok (.aload_n 0, 1) := by decide +kernel
theorem d_A_freed_46 : decode b_A_freed 46 = .ok (.getfield 9, 3) := by decide +kernel
theorem d_A_freed_49 : decode b_A_freed 49 = .ok (.iload_n 1, 1) := by decide +kernel
theorem d_A_freed_50 : decode b_A_freed 50 = .ok (.iload 5, 2) := by decide +kernel
theorem d_A_freed_52 : decode b_A_freed 52 = .ok (.invokevirtual 59, 3) := by decide +kernel
theorem d_A_freed_55 : decode b_A_freed 55 = .ok (.iload_n 2, 1) := by decide +kernel
theorem d_A_freed_56 : decode b_A_freed 56 = .ok (.iload_n 3, 1) := by decide +kernel
theorem d_A_freed_57 : decode b_A_freed 57 = .ok (.iconst 1, 1) := by decide +kernel
theorem d_A_freed_58 : decode b_A_freed 58 = .ok (.iadd, 1) := by decide +kernel
theorem d_A_freed_59 : decode b_A_freed 59 = .ok (.invokevirtual 42, 3) := by decide +kernel
theorem d_A_freed_62 : decode b_A_freed 62 = .ok (.istore 6, 2) := by decide +kernel
theorem d_A_freed_64 : decode b_A_freed 64 = .ok (.aload_n 0, 1) := by decide +kernel
theorem d_A_freed_65 : decode b_A_freed 65 = .ok (.aload_n 0, 1) := by decide +kernel
theorem d_A_freed_66 : decode b_A_freed 66 = .ok (.getfield 9, 3) := by decide +kernel
theorem d_A_freed_69 : decode b_A_freed 69 = .ok (.iload_n 1, 1) := by decide +kernel
theorem d_A_freed_70 : decode b_A_freed 70 = .ok (.iload 5, 2) := by decide +kernel
theorem d_A_freed_72 : decode b_A_freed 72 = .ok (.invokevirtual 62, 3) := by decide +kernel
theorem d_A_freed_75 : decode b_A_freed 75 = .ok (.iload_n 2, 1) := by decide +kernel
theorem d_A_freed_76 : decode b_A_freed 76 = .ok (.iload_n 3, 1) := by decide +kernel
theorem d_A_freed_77 : decode b_A_freed 77 = .ok (.iconst 1, 1) := by decide +kernel
theorem d_A_freed_78 : decode b_A_freed 78 = .ok (.iadd, 1) := by decide +kernel
theorem d_A_freed_79 : decode b_A_freed 79 = .ok (.invokevirtual 42, 3) := by decide +kernel
theorem d_A_freed_82 : decode b_A_freed 82 = .ok (.istore 7, 2) := by decide +kernel
theorem d_A_freed_84 : decode b_A_freed 84 = .ok (.iload_n 2, 1) := by decide +kernel
theorem d_A_freed_85 : decode b_A_freed 85 = .ok (.iload 5, 2) := by decide +kernel
theorem d_A_freed_87 : decode b_A_freed 87 = .ok (.ishr, 1) := by decide +kernel
theorem d_A_freed_88 : decode b_A_freed 88 = .ok (.iconst 1, 1) := by decide +kernel
theorem d_A_freed_89 : decode b_A_freed 89 = .ok (.iand, 1) := by decide +kernel
theorem d_A_freed_90 : decode b_A_freed 90 = .ok (.ifCond .eq 7, 3) := by decide +kernel
theorem d_A_freed_93 : decode b_A_freed 93 = .ok (.iconst 1, 1) := by decide +kernel
theorem d_A_freed_94 : decode b_A_freed 94 = .ok (.goto 4, 3) := by decide +kernel
theorem d_A_freed_97 : decode b_A_freed 97 = .ok (.iconst 0, 1) := by decide +kernel
theorem d_A_freed_98 : decode b_A_freed 98 = .ok (.istore 8, 2) := by decide +kernel
theorem d_A_freed_100 : decode b_A_freed 100 = .ok (.iload 8, 2) := by decide +kernel
theorem d_A_freed_102 : decode b_A_freed 102 = .ok (.ifCond .eq 18, 3) := by decide +kernel
theorem d_A_freed_105 : decode b_A_freed 105 = .ok (.aload_n 0, 1) := by decide +kernel
theorem d_A_freed_106 : decode b_A_freed 106 = .ok (.iload 6, 2) := by decide +kernel
theorem d_A_freed_108 : decode b_A_freed 108 = .ok (.iconst 1, 1) := by decide +kernel
theorem d_A_freed_109 : decode b_A_freed 109 = .ok (.iload 7, 2) := by decide +kernel
theorem d_A_freed_111 : decode b_A_freed 111 = .ok (.iload_n 3, 1) := by decide +kernel
theorem d_A_freed_112 : decode b_A_freed 112 = .ok (.iconst 1, 1) := by decide +kernel
theorem d_A_freed_113 : decode b_A_freed 113 = .ok (.iadd, 1) := by decide +kernel
theorem d_A_freed_114 : decode b_A_freed 114 = .ok (.invokevirtual 38, 3) := by decide +kernel
theorem d_A_freed_117 : decode b_A_freed 117 = .ok (.goto 16, 3) := by decide +kernel
theorem d_A_freed_120 : decode b_A_freed 120 = .ok (.aload_n 0, 1) := by decide +kernel
theorem d_A_freed_121 : decode b_A_freed 121 = .ok (.getfield 9, 3) := by decide +kernel
theorem d_A_freed_124 : decode b_A_freed 124 = .ok (.iload 5, 2) := by decide +kernel
theorem d_A_freed_126 : decode b_A_freed 126 = .ok (.iload 6, 2) := by decide +kernel
theorem d_A_freed_128 : decode b_A_freed 128 = .ok (.iload 7, 2) := by decide +kernel
theorem d_A_freed_130 : decode b_A_freed 130 = .ok (.invokevirtual 34, 3) := by decide +kernel
theorem d_A_freed_133 : decode b_A_freed 133 = .ok (.istore 9, 2) := by decide +kernel
theorem d_A_freed_135 : decode b_A_freed 135 = .ok (.aload_n 0, 1) := by decide +kernel
theorem d_A_freed_136 : decode b_A_freed 136 = .ok (.getfield 18, 3) := by decide +kernel
theorem d_A_freed_139 : decode b_A_freed 139 = .ok (.iload_n 1, 1) := by decide +kernel
theorem d_A_freed_140 : decode b_A_freed 140 = .ok (.iload_n 2, 1) := by decide +kernel
theorem d_A_freed_141 : decode b_A_freed 141 = .ok (.iconst (-1), 1) := by decide +kernel
theorem d_A_freed_142 : decode b_A_freed 142 = .ok (.iload 9, 2) := by decide +kernel
theorem d_A_freed_144 : decode b_A_freed 144 = .ok (.invokevirtual 65, 3) := by decide +kernel
theorem d_A_freed_147 : decode b_A_freed 147 = .ok (.iload 9, 2) := by decide +kernel
theorem d_A_freed_149 : decode b_A_freed 149 = .ok (.ireturn, 1) := by decide +kernel
theorem d_S_turn_0 : decode b_S_turn 0 = .ok (.iload_n 1, 1) := by decide +kernel
theorem d_S_turn_1 : decode b_S_turn 1 = .ok (.invokestatic 42, 3) := by decide +kernel
theorem d_S_turn_4 : decode b_S_turn 4 = .ok (.iload_n 2, 1) := by decide +kernel
theorem d_S_turn_5 : decode b_S_turn 5 = .ok (.invokestatic 42, 3) := by decide +kernel
theorem d_S_turn_8 : decode b_S_turn 8 = .ok (.aload_n 0, 1) := by decide +kernel
theorem d_S_turn_9 : decode b_S_turn 9 = .ok (.iload_n 1, 1) := by decide +kernel
theorem d_S_turn_10 : decode b_S_turn 10 = .ok (.aload_n 0, 1) := by decide +kernel
theorem d_S_turn_11 : decode b_S_turn 11 = .ok (.getfield 31, 3) := by decide +kernel
theorem d_S_turn_14 : decode b_S_turn 14 = .ok (.aload_n 0, 1) := by decide +kernel
theorem d_S_turn_15 : decode b_S_turn 15 = .ok (.getfield 9, 3) := by decide +kernel
theorem d_S_turn_18 : decode b_S_turn 18 = .ok (.iload_n 2, 1) := by decide +kernel
theorem d_S_turn_19 : decode b_S_turn 19 = .ok (.iaload, 1) := by decide +kernel
theorem d_S_turn_20 : decode b_S_turn 20 = .ok (.invokevirtual 68, 3) := by decide +kernel
theorem d_S_turn_23 : decode b_S_turn 23 = .ok (.invokevirtual 46, 3) := by decide +kernel
theorem d_S_turn_26 : decode b_S_turn 26 = .ok (.ireturn, 1) := by decide +kernel
theorem d_A_turned_0 : decode b_A_turned 0 = .ok (.aload_n 0, 1) := by decide +kernel
theorem d_A_turned_1 : decode b_A_turned 1 = .ok (.sipush 765, 3) := by decide +kernel
theorem d_A_turned_4 : decode b_A_turned 4 = .ok (.invokevirtual 31, 3) := by decide +kernel
theorem d_A_turned_7 : decode b_A_turned 7 = .ok (.aload_n 0, 1) := by decide +kernel
theorem d_A_turned_8 : decode b_A_turned 8 = .ok (.iload_n 1, 1) := by decide +kernel
theorem d_A_turned_9 : decode b_A_turned 9 = .ok (.iconst 0, 1) := by decide +kernel
theorem d_A_turned_10 : decode b_A_turned 10 = .ok (.iconst 0, 1) := by decide +kernel
theorem d_A_turned_11 : decode b_A_turned 11 = .ok (.iconst 0, 1) := by decide +kernel
theorem d_A_turned_12 : decode b_A_turned 12 = .ok (.aload_n 0, 1) := by decide +kernel
theorem d_A_turned_13 : decode b_A_turned 13 = .ok (.iload_n 1, 1) := by decide +kernel
theorem d_A_turned_14 : decode b_A_turned 14 = .ok (.iconst 0, 1) := by decide +kernel
theorem d_A_turned_15 : decode b_A_turned 15 = .ok (.invokevirtual 45, 3) := by decide +kernel
theorem d_A_turned_18 : decode b_A_turned 18 = .ok (.invokevirtual 49, 3) := by decide +kernel
theorem d_A_turned_21 : decode b_A_turned 21 = .ok (.ireturn, 1) := by decide +kernel
theorem d_A_hanging_0 : decode b_A_hanging 0 = .ok (.iload_n 1, 1) := by decide +kernel
theorem d_A_hanging_1 : decode b_A_hanging 1 = .ok (.iconst 1, 1) := by decide +kernel
theorem d_A_hanging_2 : decode b_A_hanging 2 = .ok (.if_icmp .le 9, 3) := by decide +kernel
theorem d_A_hanging_5 : decode b_A_hanging 5 = .ok (.iload_n 2, 1) := by decide +kernel
theorem d_A_hanging_6 : decode b_A_hanging 6 = .ok (.bipush 12, 2) := by decide +kernel
theorem d_A_hanging_8 : decode b_A_hanging 8 = .ok (.if_icmp .lt 5, 3) := by decide +kernel
theorem d_A_hanging_11 : decode b_A_hanging 11 = .ok (.iconst 0, 1) := by decide +kernel
theorem d_A_hanging_12 : decode b_A_hanging 12 = .ok (.ireturn, 1) := by decide +kernel
theorem d_A_hanging_13 : decode b_A_hanging 13 = .ok (.aload_n 0, 1) := by decide +kernel
theorem d_A_hanging_14 : decode b_A_hanging 14 = .ok (.getfield 18, 3) := by decide +kernel
theorem d_A_hanging_17 : decode b_A_hanging 17 = .ok (.iload_n 1, 1) := by decide +kernel
theorem d_A_hanging_18 : decode b_A_hanging 18 = .ok (.iconst 0, 1) := by decide +kernel
theorem d_A_hanging_19 : decode b_A_hanging 19 = .ok (.iconst (-1), 1) := by decide +kernel
theorem d_A_hanging_20 : decode b_A_hanging 20 = .ok (.invokevirtual 53, 3) := by decide +kernel
theorem d_A_hanging_23 : decode b_A_hanging 23 = .ok (.istore_n 3, 1) := by decide +kernel
theorem d_A_hanging_24 : decode b_A_hanging 24 = .ok (.iload_n 3, 1) := by decide +kernel
theorem d_A_hanging_25 : decode b_A_hanging 25 = .ok (.iconst (-1), 1) := by decide +kernel
theorem d_A_hanging_26 : decode b_A_hanging 26 = .ok (.if_icmp .eq 5, 3) := by decide +kernel
theorem d_A_hanging_29 : decode b_A_hanging 29 = .ok (.iload_n 3, 1) := by decide +kernel
theorem d_A_hanging_30 : decode b_A_hanging 30 = .ok (.ireturn, 1) := by decide +kernel
theorem d_A_hanging_31 : decode b_A_hanging 31 = .ok (.aload_n 0, 1) := by decide +kernel
theorem d_A_hanging_32 : decode b_A_hanging 32 = .ok (.getfield 9, 3) := by decide +kernel
theorem d_A_hanging_35 : decode b_A_hanging 35 = .ok (.iload_n 1, 1) := by decide +kernel
theorem d_A_hanging_36 : decode b_A_hanging 36 = .ok (.invokevirtual 69, 3) := by decide +kernel
theorem d_A_hanging_39 : decode b_A_hanging 39 = .ok (.istore 4, 2) := by decide +kernel
theorem d_A_hanging_41 : decode b_A_hanging 41 = .ok (.iconst 1, 1) := by decide +kernel
theorem d_A_hanging_42 : decode b_A_hanging 42 = .ok (.iload 4, 2) := by decide +kernel
theorem d_A_hanging_44 : decode b_A_hanging 44 = .ok (.ishl, 1) := by decide +kernel
theorem d_A_hanging_45 : decode b_A_hanging 45 = .ok (.istore 5, 2) := by decide +kernel
theorem d_A_hanging_47 : decode b_A_hanging 47 = .ok (.iload 5, 2) := by decide +kernel
theorem d_A_hanging_49 : decode b_A_hanging 49 = .ok (.aload_n 0, 1) := by decide +kernel
theorem d_A_hanging_50 : decode b_A_hanging 50 = .ok (.aload_n 0, 1) := by decide +kernel
theorem d_A_hanging_51 : decode b_A_hanging 51 = .ok (.getfield 9, 3) := by decide +kernel
theorem d_A_hanging_54 : decode b_A_hanging 54 = .ok (.iload_n 1, 1) := by decide +kernel
theorem d_A_hanging_55 : decode b_A_hanging 55 = .ok (.iload 4, 2) := by decide +kernel
theorem d_A_hanging_57 : decode b_A_hanging 57 = .ok (.invokevirtual 59, 3) := by decide +kernel
theorem d_A_hanging_60 : decode b_A_hanging 60 = .ok (.iload_n 2, 1) := by decide +kernel
theorem d_A_hanging_61 : decode b_A_hanging 61 = .ok (.iconst 1, 1) := by decide +kernel
theorem d_A_hanging_62 : decode b_A_hanging 62 = .ok (.iadd, 1) := by decide +kernel
theorem d_A_hanging_63 : decode b_A_hanging 63 = .ok (.invokevirtual 45, 3) := by decide +kernel
theorem d_A_hanging_66 : decode b_A_hanging 66 = .ok (.ior, 1) := by decide +kernel
theorem d_A_hanging_67 : decode b_A_hanging 67 = .ok (.istore 5, 2) := by decide +kernel
theorem d_A_hanging_69 : decode b_A_hanging 69 = .ok (.iload 5, 2) := by decide +kernel
theorem d_A_hanging_71 : decode b_A_hanging 71 = .ok (.aload_n 0, 1) := by decide +kernel
theorem d_A_hanging_72 : decode b_A_hanging 72 = .ok (.aload_n 0, 1) := by decide +kernel
theorem d_A_hanging_73 : decode b_A_hanging 73 = .ok (.getfield 9, 3) := by decide +kernel
theorem d_A_hanging_76 : decode b_A_hanging 76 = .ok (.iload_n 1, 1) := by decide +kernel
theorem d_A_hanging_77 : decode b_A_hanging 77 = .ok (.iload 4, 2) := by decide +kernel
theorem d_A_hanging_79 : decode b_A_hanging 79 = .ok (.invokevirtual 62, 3) := by decide +kernel
theorem d_A_hanging_82 : decode b_A_hanging 82 = .ok (.iload_n 2, 1) := by decide +kernel
theorem d_A_hanging_83 : decode b_A_hanging 83 = .ok (.iconst 1, 1) := by decide +kernel
theorem d_A_hanging_84 : decode b_A_hanging 84 = .ok (.iadd, 1) := by decide +kernel
theorem d_A_hanging_85 : decode b_A_hanging 85 = .ok (.invokevirtual 45, 3) := by decide +kernel
theorem d_A_hanging_88 : decode b_A_hanging 88 = .ok (.ior, 1) := by decide +kernel
theorem d_A_hanging_89 : decode b_A_hanging 89 = .ok (.istore 5, 2) := by decide +kernel
theorem d_A_hanging_91 : decode b_A_hanging 91 = .ok (.aload_n 0, 1) := by decide +kernel
theorem d_A_hanging_92 : decode b_A_hanging 92 = .ok (.getfield 18, 3) := by decide +kernel
theorem d_A_hanging_95 : decode b_A_hanging 95 = .ok (.iload_n 1, 1) := by decide +kernel
theorem d_A_hanging_96 : decode b_A_hanging 96 = .ok (.iconst 0, 1) := by decide +kernel
theorem d_A_hanging_97 : decode b_A_hanging 97 = .ok (.iconst (-1), 1) := by decide +kernel
theorem d_A_hanging_98 : decode b_A_hanging 98 = .ok (.iload 5, 2) := by decide +kernel
theorem d_A_hanging_100 : decode b_A_hanging 100 = .ok (.invokevirtual 65, 3) := by decide +kernel
theorem d_A_hanging_103 : decode b_A_hanging 103 = .ok (.iload 5, 2) := by decide +kernel
theorem d_A_hanging_105 : decode b_A_hanging 105 = .ok (.ireturn, 1) := by decide +kernel
theorem d_A_turnedFrom_0 : decode b_A_turnedFrom 0 = .ok (.aload_n 0, 1) := by decide +kernel
theorem d_A_turnedFrom_1 : decode b_A_turnedFrom 1 = .ok (.getfield 9, 3) := by decide +kernel
theorem d_A_turnedFrom_4 : decode b_A_turnedFrom 4 = .ok (.iload_n 1, 1) := by decide +kernel
theorem d_A_turnedFrom_5 : decode b_A_turnedFrom 5 = .ok (.iload_n 3, 1) := by decide +kernel
theorem d_A_turnedFrom_6 : decode b_A_turnedFrom 6 = .ok (.iload 4, 2) := by decide +kernel
theorem d_A_turnedFrom_8 : decode b_A_turnedFrom 8 = .ok (.invokevirtual 73, 3) := by decide +kernel
theorem d_A_turnedFrom_11 : decode b_A_turnedFrom 11 = .ok (.istore 6, 2) := by decide +kernel
theorem d_A_turnedFrom_13 : decode b_A_turnedFrom 13 = .ok (.iload 6, 2) := by decide +kernel
theorem d_A_turnedFrom_15 : decode b_A_turnedFrom 15 = .ok (.iconst 1, 1) := by decide +kernel
theorem d_A_turnedFrom_16 : decode b_A_turnedFrom 16 = .ok (.if_icmp .le 9, 3) := by decide +kernel
theorem d_A_turnedFrom_19 : decode b_A_turnedFrom 19 = .ok (.iload_n 2, 1) := by decide +kernel
theorem d_A_turnedFrom_20 : decode b_A_turnedFrom 20 = .ok (.bipush 12, 2) := by decide +kernel
theorem d_A_turnedFrom_22 : decode b_A_turnedFrom 22 = .ok (.if_icmp .lt 6, 3) := by decide +kernel
theorem d_A_turnedFrom_25 : decode b_A_turnedFrom 25 = .ok (.iload 6, 2) := by decide +kernel
theorem d_A_turnedFrom_27 : decode b_A_turnedFrom 27 = .ok (.ireturn, 1) := by decide +kernel
theorem d_A_turnedFrom_28 : decode b_A_turnedFrom 28 = .ok (.aload_n 0, 1) := by decide +kernel
theorem d_A_turnedFrom_29 : decode b_A_turnedFrom 29 = .ok (.getfield 9, 3) := by decide +kernel
theorem d_A_turnedFrom_32 : decode b_A_turnedFrom 32 = .ok (.iload_n 2, 1) := by decide +kernel
theorem d_A_turnedFrom_33 : decode b_A_turnedFrom 33 = .ok (.invokevirtual 76, 3) := by decide +kernel
theorem d_A_turnedFrom_36 : decode b_A_turnedFrom 36 = .ok (.istore 7, 2) := by decide +kernel
theorem d_A_turnedFrom_38 : decode b_A_turnedFrom 38 = .ok (.iconst 1, 1) := by decide +kernel
theorem d_A_turnedFrom_39 : decode b_A_turnedFrom 39 = .ok (.iload 7, 2) := by decide +kernel
theorem d_A_turnedFrom_41 : decode b_A_turnedFrom 41 = .ok (.iconst 1, 1) := by decide +kernel
theorem d_A_turnedFrom_42 : decode b_A_turnedFrom 42 = .ok (.ixor, 1) := by decide +kernel
theorem d_A_turnedFrom_43 : decode b_A_turnedFrom 43 = .ok (.ishl, 1) := by decide +kernel
theorem d_A_turnedFrom_44 : decode b_A_turnedFrom 44 = .ok (.istore 8, 2) := by decide +kernel
theorem d_A_turnedFrom_46 : decode b_A_turnedFrom 46 = .ok (.iload 5, 2) := by decide +kernel
theorem d_A_turnedFrom_48 : decode b_A_turnedFrom 48 = .ok (.iload 8, 2) := by decide +kernel
theorem d_A_turnedFrom_50 : decode b_A_turnedFrom 50 = .ok (.iand, 1) := by decide +kernel
theorem d_A_turnedFrom_51 : decode b_A_turnedFrom 51 = .ok (.ifCond .ne 18, 3) := by decide +kernel
theorem d_A_turnedFrom_54 : decode b_A_turnedFrom 54 = .ok (.aload_n 0, 1) := by decide +kernel
theorem d_A_turnedFrom_55 : decode b_A_turnedFrom 55 = .ok (.iload 6, 2) := by decide +kernel
theorem d_A_turnedFrom_57 : decode b_A_turnedFrom 57 = .ok (.iload_n 2, 1) := by decide +kernel
theorem d_A_turnedFrom_58 : decode b_A_turnedFrom 58 = .ok (.iconst 1, 1) := by decide +kernel
theorem d_A_turnedFrom_59 : decode b_A_turnedFrom 59 = .ok (.iadd, 1) := by decide +kernel
theorem d_A_turnedFrom_60 : decode b_A_turnedFrom 60 = .ok (.iload_n 3, 1) := by decide +kernel
theorem d_A_turnedFrom_61 : decode b_A_turnedFrom 61 = .ok (.iload 4, 2) := by decide +kernel
theorem d_A_turnedFrom_63 : decode b_A_turnedFrom 63 = .ok (.iload 5, 2) := by decide +kernel
theorem d_A_turnedFrom_65 : decode b_A_turnedFrom 65 = .ok (.invokevirtual 49, 3) := by decide +kernel
theorem d_A_turnedFrom_68 : decode b_A_turnedFrom 68 = .ok (.ireturn, 1) := by decide +kernel
theorem d_A_turnedFrom_69 : decode b_A_turnedFrom 69 = .ok (.aload_n 0, 1) := by decide +kernel
theorem d_A_turnedFrom_70 : decode b_A_turnedFrom 70 = .ok (.iload 6, 2) := by decide +kernel
theorem d_A_turnedFrom_72 : decode b_A_turnedFrom 72 = .ok (.iload_n 2, 1) := by decide +kernel
theorem d_A_turnedFrom_73 : decode b_A_turnedFrom 73 = .ok (.iconst 1, 1) := by decide +kernel
theorem d_A_turnedFrom_74 : decode b_A_turnedFrom 74 = .ok (.iadd, 1) := by decide +kernel
theorem d_A_turnedFrom_75 : decode b_A_turnedFrom 75 = .ok (.iload_n 3, 1) := by decide +kernel
theorem d_A_turnedFrom_76 : decode b_A_turnedFrom 76 = .ok (.iload 8, 2) := by decide +kernel
theorem d_A_turnedFrom_78 : decode b_A_turnedFrom 78 = .ok (.ior, 1) := by decide +kernel
theorem d_A_turnedFrom_79 : decode b_A_turnedFrom 79 = .ok (.iload 4, 2) := by decide +kernel
theorem d_A_turnedFrom_81 : decode b_A_turnedFrom 81 = .ok (.iload 5, 2) := by decide +kernel
theorem d_A_turnedFrom_83 : decode b_A_turnedFrom 83 = .ok (.invokevirtual 49, 3) := by decide +kernel
theorem d_A_turnedFrom_86 : decode b_A_turnedFrom 86 = .ok (.istore 9, 2) := by decide +kernel
theorem d_A_turnedFrom_88 : decode b_A_turnedFrom 88 = .ok (.aload_n 0, 1) := by decide +kernel
theorem d_A_turnedFrom_89 : decode b_A_turnedFrom 89 = .ok (.iload 6, 2) := by decide +kernel
theorem d_A_turnedFrom_91 : decode b_A_turnedFrom 91 = .ok (.iload_n 2, 1) := by decide +kernel
theorem d_A_turnedFrom_92 : decode b_A_turnedFrom 92 = .ok (.iconst 1, 1) := by decide +kernel
theorem d_A_turnedFrom_93 : decode b_A_turnedFrom 93 = .ok (.iadd, 1) := by decide +kernel
theorem d_A_turnedFrom_94 : decode b_A_turnedFrom 94 = .ok (.iload_n 3, 1) := by decide +kernel
theorem d_A_turnedFrom_95 : decode b_A_turnedFrom 95 = .ok (.iload 8, 2) := by decide +kernel
theorem d_A_turnedFrom_97 : decode b_A_turnedFrom 97 = .ok (.ior, 1) := by decide +kernel
theorem d_A_turnedFrom_98 : decode b_A_turnedFrom 98 = .ok (.iload 4, 2) := by decide +kernel
theorem d_A_turnedFrom_100 : decode b_A_turnedFrom 100 = .ok (.iload 8, 2) := by decide +kernel
theorem d_A_turnedFrom_102 : decode b_A_turnedFrom 102 = .ok (.ior, 1) := by decide +kernel
theorem d_A_turnedFrom_103 : decode b_A_turnedFrom 103 = .ok (.iload 5, 2) := by decide +kernel
theorem d_A_turnedFrom_105 : decode b_A_turnedFrom 105 = .ok (.invokevirtual 49, 3) := by decide +kernel
theorem d_A_turnedFrom_108 : decode b_A_turnedFrom 108 = .ok (.istore 10, 2) := by decide +kernel
theorem d_A_turnedFrom_110 : decode b_A_turnedFrom 110 = .ok (.aload_n 0, 1) := by decide +kernel
theorem d_A_turnedFrom_111 : decode b_A_turnedFrom 111 = .ok (.getfield 9, 3) := by decide +kernel
theorem d_A_turnedFrom_114 : decode b_A_turnedFrom 114 = .ok (.iload 7, 2) := by decide +kernel
theorem d_A_turnedFrom_116 : decode b_A_turnedFrom 116 = .ok (.iload 9, 2) := by decide +kernel
theorem d_A_turnedFrom_118 : decode b_A_turnedFrom 118 = .ok (.iload 10, 2) := by decide +kernel
theorem d_A_turnedFrom_120 : decode b_A_turnedFrom 120 = .ok (.invokevirtual 34, 3) := by decide +kernel
theorem d_A_turnedFrom_123 : decode b_A_turnedFrom 123 = .ok (.ireturn, 1) := by decide +kernel
theorem d_N_followed_0 : decode b_N_followed 0 = .ok (.iload_n 1, 1) := by decide +kernel
theorem d_N_followed_1 : decode b_N_followed 1 = .ok (.istore 4, 2) := by decide +kernel
theorem d_N_followed_3 : decode b_N_followed 3 = .ok (.iconst 0, 1) := by decide +kernel
theorem d_N_followed_4 : decode b_N_followed 4 = .ok (.istore 5, 2) := by decide +kernel
theorem d_N_followed_6 : decode b_N_followed 6 = .ok (.iload 5, 2) := by decide +kernel
theorem d_N_followed_8 : decode b_N_followed 8 = .ok (.bipush 12, 2) := by decide +kernel
theorem d_N_followed_10 : decode b_N_followed 10 = .ok (.if_icmp .ge 62, 3) := by decide +kernel
theorem d_N_followed_13 : decode b_N_followed 13 = .ok (.iload_n 2, 1) := by decide +kernel
theorem d_N_followed_14 : decode b_N_followed 14 = .ok (.aload_n 0, 1) := by decide +kernel
theorem d_N_followed_15 : decode b_N_followed 15 = .ok (.iload 4, 2) := by decide +kernel
theorem d_N_followed_17 : decode b_N_followed 17 = .ok (.iconst 0, 1) := by decide +kernel
theorem d_N_followed_18 : decode b_N_followed 18 = .ok (.invokevirtual 46, 3) := by decide +kernel
theorem d_N_followed_21 : decode b_N_followed 21 = .ok (.ishr, 1) := by decide +kernel
theorem d_N_followed_22 : decode b_N_followed 22 = .ok (.iconst 1, 1) := by decide +kernel
theorem d_N_followed_23 : decode b_N_followed 23 = .ok (.iand, 1) := by decide +kernel
theorem d_N_followed_24 : decode b_N_followed 24 = .ok (.ifCond .eq 48, 3) := by decide +kernel
theorem d_N_followed_27 : decode b_N_followed 27 = .ok (.iload_n 3, 1) := by decide +kernel
theorem d_N_followed_28 : decode b_N_followed 28 = .ok (.aload_n 0, 1) := by decide +kernel
theorem d_N_followed_29 : decode b_N_followed 29 = .ok (.iload 4, 2) := by decide +kernel
theorem d_N_followed_31 : decode b_N_followed 31 = .ok (.iconst 0, 1) := by decide +kernel
theorem d_N_followed_32 : decode b_N_followed 32 = .ok (.invokevirtual 46, 3) := by decide +kernel
theorem d_N_followed_35 : decode b_N_followed 35 = .ok (.ishr, 1) := by decide +kernel
theorem d_N_followed_36 : decode b_N_followed 36 = .ok (.iconst 1, 1) := by decide +kernel
theorem d_N_followed_37 : decode b_N_followed 37 = .ok (.iand, 1) := by decide +kernel
theorem d_N_followed_38 : decode b_N_followed 38 = .ok (.ifCond .eq 7, 3) := by decide +kernel
theorem d_N_followed_41 : decode b_N_followed 41 = .ok (.iconst 1, 1) := by decide +kernel
theorem d_N_followed_42 : decode b_N_followed 42 = .ok (.goto 4, 3) := by decide +kernel
theorem d_N_followed_45 : decode b_N_followed 45 = .ok (.iconst 0, 1) := by decide +kernel
theorem d_N_followed_46 : decode b_N_followed 46 = .ok (.istore 6, 2) := by decide +kernel
theorem d_N_followed_48 : decode b_N_followed 48 = .ok (.aload_n 0, 1) := by decide +kernel
theorem d_N_followed_49 : decode b_N_followed 49 = .ok (.iload 4, 2) := by decide +kernel
theorem d_N_followed_51 : decode b_N_followed 51 = .ok (.iload 6, 2) := by decide +kernel
theorem d_N_followed_53 : decode b_N_followed 53 = .ok (.ifCond .eq 7, 3) := by decide +kernel
theorem d_N_followed_56 : decode b_N_followed 56 = .ok (.iconst 2, 1) := by decide +kernel
theorem d_N_followed_57 : decode b_N_followed 57 = .ok (.goto 4, 3) := by decide +kernel
theorem d_N_followed_60 : decode b_N_followed 60 = .ok (.iconst 1, 1) := by decide +kernel
theorem d_N_followed_61 : decode b_N_followed 61 = .ok (.invokevirtual 46, 3) := by decide +kernel
theorem d_N_followed_64 : decode b_N_followed 64 = .ok (.istore 4, 2) := by decide +kernel
theorem d_N_followed_66 : decode b_N_followed 66 = .ok (.iinc 5 1, 3) := by decide +kernel
theorem d_N_followed_69 : decode b_N_followed 69 = .ok (.goto (-63), 3) := by decide +kernel
theorem d_N_followed_72 : decode b_N_followed 72 = .ok (.iload 4, 2) := by decide +kernel
theorem d_N_followed_74 : decode b_N_followed 74 = .ok (.ireturn, 1) := by decide +kernel
theorem d_S_value_0 : decode b_S_value 0 = .ok (.iload_n 1, 1) := by decide +kernel
theorem d_S_value_1 : decode b_S_value 1 = .ok (.invokestatic 42, 3) := by decide +kernel
theorem d_S_value_4 : decode b_S_value 4 = .ok (.iload_n 2, 1) := by decide +kernel
theorem d_S_value_5 : decode b_S_value 5 = .ok (.sipush 4096, 3) := by decide +kernel
theorem d_S_value_8 : decode b_S_value 8 = .ok (.invokestatic 50, 3) := by decide +kernel
theorem d_S_value_11 : decode b_S_value 11 = .ok (.aload_n 0, 1) := by decide +kernel
theorem d_S_value_12 : decode b_S_value 12 = .ok (.getfield 22, 3) := by decide +kernel
theorem d_S_value_15 : decode b_S_value 15 = .ok (.aload_n 0, 1) := by decide +kernel
theorem d_S_value_16 : decode b_S_value 16 = .ok (.getfield 9, 3) := by decide +kernel
theorem d_S_value_19 : decode b_S_value 19 = .ok (.iload_n 1, 1) := by decide +kernel
theorem d_S_value_20 : decode b_S_value 20 = .ok (.iaload, 1) := by decide +kernel
theorem d_S_value_21 : decode b_S_value 21 = .ok (.iload_n 2, 1) := by decide +kernel
theorem d_S_value_22 : decode b_S_value 22 = .ok (.invokevirtual 71, 3) := by decide +kernel
theorem d_S_value_25 : decode b_S_value 25 = .ok (.ireturn, 1) := by decide +kernel
theorem d_N_truthFor_0 : decode b_N_truthFor 0 = .ok (.iload_n 1, 1) := by decide +kernel
theorem d_N_truthFor_1 : decode b_N_truthFor 1 = .ok (.istore_n 3, 1) := by decide +kernel
theorem d_N_truthFor_2 : decode b_N_truthFor 2 = .ok (.iconst 0, 1) := by decide +kernel
theorem d_N_truthFor_3 : decode b_N_truthFor 3 = .ok (.istore 4, 2) := by decide +kernel
theorem d_N_truthFor_5 : decode b_N_truthFor 5 = .ok (.iload 4, 2) := by decide +kernel
theorem d_N_truthFor_7 : decode b_N_truthFor 7 = .ok (.bipush 12, 2) := by decide +kernel
theorem d_N_truthFor_9 : decode b_N_truthFor 9 = .ok (.if_icmp .ge 50, 3) := by decide +kernel
theorem d_N_truthFor_12 : decode b_N_truthFor 12 = .ok (.iload_n 3, 1) := by decide +kernel
theorem d_N_truthFor_13 : decode b_N_truthFor 13 = .ok (.iconst 1, 1) := by decide +kernel
theorem d_N_truthFor_14 : decode b_N_truthFor 14 = .ok (.if_icmp .le 45, 3) := by decide +kernel
theorem d_N_truthFor_17 : decode b_N_truthFor 17 = .ok (.iload_n 2, 1) := by decide +kernel
theorem d_N_truthFor_18 : decode b_N_truthFor 18 = .ok (.aload_n 0, 1) := by decide +kernel
theorem d_N_truthFor_19 : decode b_N_truthFor 19 = .ok (.iload_n 3, 1) := by decide +kernel
theorem d_N_truthFor_20 : decode b_N_truthFor 20 = .ok (.iconst 0, 1) := by decide +kernel
theorem d_N_truthFor_21 : decode b_N_truthFor 21 = .ok (.invokevirtual 46, 3) := by decide +kernel
theorem d_N_truthFor_24 : decode b_N_truthFor 24 = .ok (.ishr, 1) := by decide +kernel
theorem d_N_truthFor_25 : decode b_N_truthFor 25 = .ok (.iconst 1, 1) := by decide +kernel
theorem d_N_truthFor_26 : decode b_N_truthFor 26 = .ok (.iand, 1) := by decide +kernel
theorem d_N_truthFor_27 : decode b_N_truthFor 27 = .ok (.ifCond .eq 7, 3) := by decide +kernel
theorem d_N_truthFor_30 : decode b_N_truthFor 30 = .ok (.iconst 1, 1) := by decide +kernel
theorem d_N_truthFor_31 : decode b_N_truthFor 31 = .ok (.goto 4, 3) := by decide +kernel
theorem d_N_truthFor_34 : decode b_N_truthFor 34 = .ok (.iconst 0, 1) := by decide +kernel
theorem d_N_truthFor_35 : decode b_N_truthFor 35 = .ok (.istore 5, 2) := by decide +kernel
theorem d_N_truthFor_37 : decode b_N_truthFor 37 = .ok (.aload_n 0, 1) := by decide +kernel
theorem d_N_truthFor_38 : decode b_N_truthFor 38 = .ok (.iload_n 3, 1) := by decide +kernel
theorem d_N_truthFor_39 : decode b_N_truthFor 39 = .ok (.iload 5, 2) := by decide +kernel
theorem d_N_truthFor_41 : decode b_N_truthFor 41 = .ok (.ifCond .eq 7, 3) := by decide +kernel
theorem d_N_truthFor_44 : decode b_N_truthFor 44 = .ok (.iconst 2, 1) := by decide +kernel
theorem d_N_truthFor_45 : decode b_N_truthFor 45 = .ok (.goto 4, 3) := by decide +kernel
theorem d_N_truthFor_48 : decode b_N_truthFor 48 = .ok (.iconst 1, 1) := by decide +kernel
theorem d_N_truthFor_49 : decode b_N_truthFor 49 = .ok (.invokevirtual 46, 3) := by decide +kernel
theorem d_N_truthFor_52 : decode b_N_truthFor 52 = .ok (.istore_n 3, 1) := by decide +kernel
theorem d_N_truthFor_53 : decode b_N_truthFor 53 = .ok (.iinc 4 1, 3) := by decide +kernel
theorem d_N_truthFor_56 : decode b_N_truthFor 56 = .ok (.goto (-51), 3) := by decide +kernel
theorem d_N_truthFor_59 : decode b_N_truthFor 59 = .ok (.iload_n 3, 1) := by decide +kernel
theorem d_N_truthFor_60 : decode b_N_truthFor 60 = .ok (.iconst 1, 1) := by decide +kernel
theorem d_N_truthFor_61 : decode b_N_truthFor 61 = .ok (.if_icmp .ne 7, 3) := by decide +kernel
theorem d_N_truthFor_64 : decode b_N_truthFor 64 = .ok (.iconst 1, 1) := by decide +kernel
theorem d_N_truthFor_65 : decode b_N_truthFor 65 = .ok (.goto 4, 3) := by decide +kernel
theorem d_N_truthFor_68 : decode b_N_truthFor 68 = .ok (.iconst 0, 1) := by decide +kernel
theorem d_N_truthFor_69 : decode b_N_truthFor 69 = .ok (.ireturn, 1) := by decide +kernel
theorem d_S_same_0 : decode b_S_same 0 = .ok (.iload_n 1, 1) := by decide +kernel
theorem d_S_same_1 : decode b_S_same 1 = .ok (.invokestatic 42, 3) := by decide +kernel
theorem d_S_same_4 : decode b_S_same 4 = .ok (.iload_n 2, 1) := by decide +kernel
theorem d_S_same_5 : decode b_S_same 5 = .ok (.invokestatic 42, 3) := by decide +kernel
theorem d_S_same_8 : decode b_S_same 8 = .ok (.aload_n 0, 1) := by decide +kernel
theorem d_S_same_9 : decode b_S_same 9 = .ok (.getfield 9, 3) := by decide +kernel
theorem d_S_same_12 : decode b_S_same 12 = .ok (.iload_n 1, 1) := by decide +kernel
theorem d_S_same_13 : decode b_S_same 13 = .ok (.iaload, 1) := by decide +kernel
theorem d_S_same_14 : decode b_S_same 14 = .ok (.aload_n 0, 1) := by decide +kernel
theorem d_S_same_15 : decode b_S_same 15 = .ok (.getfield 9, 3) := by decide +kernel
theorem d_S_same_18 : decode b_S_same 18 = .ok (.iload_n 2, 1) := by decide +kernel
theorem d_S_same_19 : decode b_S_same 19 = .ok (.iaload, 1) := by decide +kernel
theorem d_S_same_20 : decode b_S_same 20 = .ok (.if_icmp .ne 7, 3) := by decide +kernel
theorem d_S_same_23 : decode b_S_same 23 = .ok (.iconst 1, 1) := by decide +kernel
theorem d_S_same_24 : decode b_S_same 24 = .ok (.goto 4, 3) := by decide +kernel
theorem d_S_same_27 : decode b_S_same 27 = .ok (.iconst 0, 1) := by decide +kernel
theorem d_S_same_28 : decode b_S_same 28 = .ok (.ireturn, 1) := by decide +kernel
theorem d_S_count_0 : decode b_S_count 0 = .ok (.iload_n 1, 1) := by decide +kernel
theorem d_S_count_1 : decode b_S_count 1 = .ok (.invokestatic 42, 3) := by decide +kernel
theorem d_S_count_4 : decode b_S_count 4 = .ok (.aload_n 0, 1) := by decide +kernel
theorem d_S_count_5 : decode b_S_count 5 = .ok (.getfield 31, 3) := by decide +kernel
theorem d_S_count_8 : decode b_S_count 8 = .ok (.aload_n 0, 1) := by decide +kernel
theorem d_S_count_9 : decode b_S_count 9 = .ok (.getfield 9, 3) := by decide +kernel
theorem d_S_count_12 : decode b_S_count 12 = .ok (.iload_n 1, 1) := by decide +kernel
theorem d_S_count_13 : decode b_S_count 13 = .ok (.iaload, 1) := by decide +kernel
theorem d_S_count_14 : decode b_S_count 14 = .ok (.invokevirtual 74, 3) := by decide +kernel
theorem d_S_count_17 : decode b_S_count 17 = .ok (.sipush (-1366), 3) := by decide +kernel
theorem d_S_count_20 : decode b_S_count 20 = .ok (.iand, 1) := by decide +kernel
theorem d_S_count_21 : decode b_S_count 21 = .ok (.ifCond .eq 13, 3) := by decide +kernel
theorem d_S_count_24 : decode b_S_count 24 = .ok (.new 77, 3) := by decide +kernel
theorem d_S_count_27 : decode b_S_count 27 = .ok (.dup, 1) := by decide +kernel
theorem d_S_count_28 : decode b_S_count 28 = .ok (.ldc 79, 2) := by decide +kernel
theorem d_S_count_30 : decode b_S_count 30 = .ok (.invokespecial 81, 3) := by decide +kernel
theorem d_S_count_33 : decode b_S_count 33 = .ok (.athrow, 1) := by decide +kernel
theorem d_S_count_34 : decode b_S_count 34 = .ok (.iconst 0, 1) := by decide +kernel
theorem d_S_count_35 : decode b_S_count 35 = .ok (.istore_n 2, 1) := by decide +kernel
theorem d_S_count_36 : decode b_S_count 36 = .ok (.iconst 0, 1) := by decide +kernel
theorem d_S_count_37 : decode b_S_count 37 = .ok (.istore_n 3, 1) := by decide +kernel
theorem d_S_count_38 : decode b_S_count 38 = .ok (.iconst 0, 1) := by decide +kernel
theorem d_S_count_39 : decode b_S_count 39 = .ok (.istore 4, 2) := by decide +kernel
theorem d_S_count_41 : decode b_S_count 41 = .ok (.iload 4, 2) := by decide +kernel
theorem d_S_count_43 : decode b_S_count 43 = .ok (.bipush 64, 2) := by decide +kernel
theorem d_S_count_45 : decode b_S_count 45 = .ok (.if_icmp .ge 39, 3) := by decide +kernel
theorem d_S_count_48 : decode b_S_count 48 = .ok (.aload_n 0, 1) := by decide +kernel
theorem d_S_count_49 : decode b_S_count 49 = .ok (.getfield 22, 3) := by decide +kernel
theorem d_S_count_52 : decode b_S_count 52 = .ok (.aload_n 0, 1) := by decide +kernel
theorem d_S_count_53 : decode b_S_count 53 = .ok (.getfield 9, 3) := by decide +kernel
theorem d_S_count_56 : decode b_S_count 56 = .ok (.iload_n 1, 1) := by decide +kernel
theorem d_S_count_57 : decode b_S_count 57 = .ok (.iaload, 1) := by decide +kernel
theorem d_S_count_58 : decode b_S_count 58 = .ok (.iload_n 3, 1) := by decide +kernel
theorem d_S_count_59 : decode b_S_count 59 = .ok (.invokevirtual 71, 3) := by decide +kernel
theorem d_S_count_62 : decode b_S_count 62 = .ok (.ifCond .eq 6, 3) := by decide +kernel
theorem d_S_count_65 : decode b_S_count 65 = .ok (.iinc 2 1, 3) := by decide +kernel
theorem d_S_count_68 : decode b_S_count 68 = .ok (.iload_n 3, 1) := by decide +kernel
theorem d_S_count_69 : decode b_S_count 69 = .ok (.sipush 1365, 3) := by decide +kernel
theorem d_S_count_72 : decode b_S_count 72 = .ok (.isub, 1) := by decide +kernel
theorem d_S_count_73 : decode b_S_count 73 = .ok (.sipush 1365, 3) := by decide +kernel
theorem d_S_count_76 : decode b_S_count 76 = .ok (.iand, 1) := by decide +kernel
theorem d_S_count_77 : decode b_S_count 77 = .ok (.istore_n 3, 1) := by decide +kernel
theorem d_S_count_78 : decode b_S_count 78 = .ok (.iinc 4 1, 3) := by decide +kernel
theorem d_S_count_81 : decode b_S_count 81 = .ok (.goto (-40), 3) := by decide +kernel
theorem d_S_count_84 : decode b_S_count 84 = .ok (.iload_n 2, 1) := by decide +kernel
theorem d_S_count_85 : decode b_S_count 85 = .ok (.ireturn, 1) := by decide +kernel
theorem d_A_hangsOn_0 : decode b_A_hangsOn 0 = .ok (.aload_n 0, 1) := by decide +kernel
theorem d_A_hangsOn_1 : decode b_A_hangsOn 1 = .ok (.getfield 18, 3) := by decide +kernel
theorem d_A_hangsOn_4 : decode b_A_hangsOn 4 = .ok (.invokevirtual 28, 3) := by decide +kernel
theorem d_A_hangsOn_7 : decode b_A_hangsOn 7 = .ok (.aload_n 0, 1) := by decide +kernel
theorem d_A_hangsOn_8 : decode b_A_hangsOn 8 = .ok (.iload_n 1, 1) := by decide +kernel
theorem d_A_hangsOn_9 : decode b_A_hangsOn 9 = .ok (.iconst 0, 1) := by decide +kernel
theorem d_A_hangsOn_10 : decode b_A_hangsOn 10 = .ok (.invokevirtual 45, 3) := by decide +kernel
theorem d_A_hangsOn_13 : decode b_A_hangsOn 13 = .ok (.ireturn, 1) := by decide +kernel
theorem d_S_support_0 : decode b_S_support 0 = .ok (.iload_n 1, 1) := by decide +kernel
theorem d_S_support_1 : decode b_S_support 1 = .ok (.invokestatic 42, 3) := by decide +kernel
theorem d_S_support_4 : decode b_S_support 4 = .ok (.aload_n 0, 1) := by decide +kernel
theorem d_S_support_5 : decode b_S_support 5 = .ok (.getfield 31, 3) := by decide +kernel
theorem d_S_support_8 : decode b_S_support 8 = .ok (.aload_n 0, 1) := by decide +kernel
theorem d_S_support_9 : decode b_S_support 9 = .ok (.getfield 9, 3) := by decide +kernel
theorem d_S_support_12 : decode b_S_support 12 = .ok (.iload_n 1, 1) := by decide +kernel
theorem d_S_support_13 : decode b_S_support 13 = .ok (.iaload, 1) := by decide +kernel
theorem d_S_support_14 : decode b_S_support 14 = .ok (.invokevirtual 74, 3) := by decide +kernel
theorem d_S_support_17 : decode b_S_support 17 = .ok (.ireturn, 1) := by decide +kernel
theorem d_S_tidy_0 : decode b_S_tidy 0 = .ok (.iload_n 1, 1) := by decide +kernel
theorem d_S_tidy_1 : decode b_S_tidy 1 = .ok (.iconst 3, 1) := by decide +kernel
theorem d_S_tidy_2 : decode b_S_tidy 2 = .ok (.invokestatic 50, 3) := by decide +kernel
theorem d_S_tidy_5 : decode b_S_tidy 5 = .ok (.aload_n 0, 1) := by decide +kernel
theorem d_S_tidy_6 : decode b_S_tidy 6 = .ok (.getfield 22, 3) := by decide +kernel
theorem d_S_tidy_9 : decode b_S_tidy 9 = .ok (.invokevirtual 84, 3) := by decide +kernel
theorem d_S_tidy_12 : decode b_S_tidy 12 = .ok (.iload_n 1, 1) := by decide +kernel
theorem d_S_tidy_13 : decode b_S_tidy 13 = .ok (.iconst 1, 1) := by decide +kernel
theorem d_S_tidy_14 : decode b_S_tidy 14 = .ok (.if_icmp .ne 13, 3) := by decide +kernel
theorem d_S_tidy_17 : decode b_S_tidy 17 = .ok (.aload_n 0, 1) := by decide +kernel
theorem d_S_tidy_18 : decode b_S_tidy 18 = .ok (.getfield 38, 3) := by decide +kernel
theorem d_S_tidy_21 : decode b_S_tidy 21 = .ok (.invokevirtual 87, 3) := by decide +kernel
theorem d_S_tidy_24 : decode b_S_tidy 24 = .ok (.goto 15, 3) := by decide +kernel
theorem d_S_tidy_27 : decode b_S_tidy 27 = .ok (.iload_n 1, 1) := by decide +kernel
theorem d_S_tidy_28 : decode b_S_tidy 28 = .ok (.iconst 2, 1) := by decide +kernel
theorem d_S_tidy_29 : decode b_S_tidy 29 = .ok (.if_icmp .ne 10, 3) := by decide +kernel
theorem d_S_tidy_32 : decode b_S_tidy 32 = .ok (.aload_n 0, 1) := by decide +kernel
theorem d_S_tidy_33 : decode b_S_tidy 33 = .ok (.getfield 38, 3) := by decide +kernel
theorem d_S_tidy_36 : decode b_S_tidy 36 = .ok (.invokevirtual 90, 3) := by decide +kernel
theorem d_S_tidy_39 : decode b_S_tidy 39 = .ok (.aload_n 0, 1) := by decide +kernel
theorem d_S_tidy_40 : decode b_S_tidy 40 = .ok (.invokevirtual 93, 3) := by decide +kernel
theorem d_S_tidy_43 : decode b_S_tidy 43 = .ok (.ireturn, 1) := by decide +kernel
theorem d_F_seekLess_0 : decode b_F_seekLess 0 = .ok (.aload_n 0, 1) := by decide +kernel
theorem d_F_seekLess_1 : decode b_F_seekLess 1 = .ok (.getfield 9, 3) := by decide +kernel
theorem d_F_seekLess_4 : decode b_F_seekLess 4 = .ok (.invokevirtual 15, 3) := by decide +kernel
theorem d_F_seekLess_7 : decode b_F_seekLess 7 = .ok (.sipush 8000, 3) := by decide +kernel
theorem d_F_seekLess_10 : decode b_F_seekLess 10 = .ok (.iadd, 1) := by decide +kernel
theorem d_F_seekLess_11 : decode b_F_seekLess 11 = .ok (.istore_n 1, 1) := by decide +kernel
theorem d_F_seekLess_12 : decode b_F_seekLess 12 = .ok (.iconst 0, 1) := by decide +kernel
theorem d_F_seekLess_13 : decode b_F_seekLess 13 = .ok (.istore_n 2, 1) := by decide +kernel
theorem d_F_seekLess_14 : decode b_F_seekLess 14 = .ok (.iconst 0, 1) := by decide +kernel
theorem d_F_seekLess_15 : decode b_F_seekLess 15 = .ok (.istore_n 3, 1) := by decide +kernel
theorem d_F_seekLess_16 : decode b_F_seekLess 16 = .ok (.iload_n 3, 1) := by decide +kernel
theorem d_F_seekLess_17 : decode b_F_seekLess 17 = .ok (.bipush 12, 2) := by decide +kernel
theorem d_F_seekLess_19 : decode b_F_seekLess 19 = .ok (.if_icmp .ge 53, 3) := by decide +kernel
theorem d_F_seekLess_22 : decode b_F_seekLess 22 = .ok (.aload_n 0, 1) := by decide +kernel
theorem d_F_seekLess_23 : decode b_F_seekLess 23 = .ok (.getfield 9, 3) := by decide +kernel
theorem d_F_seekLess_26 : decode b_F_seekLess 26 = .ok (.invokevirtual 15, 3) := by decide +kernel
theorem d_F_seekLess_29 : decode b_F_seekLess 29 = .ok (.iload_n 1, 1) := by decide +kernel
theorem d_F_seekLess_30 : decode b_F_seekLess 30 = .ok (.isub, 1) := by decide +kernel
theorem d_F_seekLess_31 : decode b_F_seekLess 31 = .ok (.ifCond .ge 41, 3) := by decide +kernel
theorem d_F_seekLess_34 : decode b_F_seekLess 34 = .ok (.aload_n 0, 1) := by decide +kernel
theorem d_F_seekLess_35 : decode b_F_seekLess 35 = .ok (.iload_n 2, 1) := by decide +kernel
theorem d_F_seekLess_36 : decode b_F_seekLess 36 = .ok (.invokevirtual 21, 3) := by decide +kernel
theorem d_F_seekLess_39 : decode b_F_seekLess 39 = .ok (.istore 4, 2) := by decide +kernel
theorem d_F_seekLess_41 : decode b_F_seekLess 41 = .ok (.iload_n 2, 1) := by decide +kernel
theorem d_F_seekLess_42 : decode b_F_seekLess 42 = .ok (.iconst 1, 1) := by decide +kernel
theorem d_F_seekLess_43 : decode b_F_seekLess 43 = .ok (.iload 4, 2) := by decide +kernel
theorem d_F_seekLess_45 : decode b_F_seekLess 45 = .ok (.ishl, 1) := by decide +kernel
theorem d_F_seekLess_46 : decode b_F_seekLess 46 = .ok (.ior, 1) := by decide +kernel
theorem d_F_seekLess_47 : decode b_F_seekLess 47 = .ok (.istore_n 2, 1) := by decide +kernel
theorem d_F_seekLess_48 : decode b_F_seekLess 48 = .ok (.aload_n 0, 1) := by decide +kernel
theorem d_F_seekLess_49 : decode b_F_seekLess 49 = .ok (.getfield 9, 3) := by decide +kernel
theorem d_F_seekLess_52 : decode b_F_seekLess 52 = .ok (.iload 4, 2) := by decide +kernel
theorem d_F_seekLess_54 : decode b_F_seekLess 54 = .ok (.invokevirtual 25, 3) := by decide +kernel
theorem d_F_seekLess_57 : decode b_F_seekLess 57 = .ok (.ifCond .le 9, 3) := by decide +kernel
theorem d_F_seekLess_60 : decode b_F_seekLess 60 = .ok (.aload_n 0, 1) := by decide +kernel
theorem d_F_seekLess_61 : decode b_F_seekLess 61 = .ok (.iload 4, 2) := by decide +kernel
theorem d_F_seekLess_63 : decode b_F_seekLess 63 = .ok (.invokevirtual 28, 3) := by decide +kernel
theorem d_F_seekLess_66 : decode b_F_seekLess 66 = .ok (.iinc 3 1, 3) := by decide +kernel
theorem d_F_seekLess_69 : decode b_F_seekLess 69 = .ok (.goto (-53), 3) := by decide +kernel
theorem d_F_seekLess_72 : decode b_F_seekLess 72 = .ok (.return_, 1) := by decide +kernel
theorem d_N_rewritten_0 : decode b_N_rewritten 0 = .ok (.aload_n 0, 1) := by decide +kernel
theorem d_N_rewritten_1 : decode b_N_rewritten 1 = .ok (.getfield 43, 3) := by decide +kernel
theorem d_N_rewritten_4 : decode b_N_rewritten 4 = .ok (.ireturn, 1) := by decide +kernel
theorem d_F_fullest_0 : decode b_F_fullest 0 = .ok (.bipush 12, 2) := by decide +kernel
theorem d_F_fullest_2 : decode b_F_fullest 2 = .ok (.istore_n 2, 1) := by decide +kernel
theorem d_F_fullest_3 : decode b_F_fullest 3 = .ok (.iconst 0, 1) := by decide +kernel
theorem d_F_fullest_4 : decode b_F_fullest 4 = .ok (.istore_n 3, 1) := by decide +kernel
theorem d_F_fullest_5 : decode b_F_fullest 5 = .ok (.iload_n 3, 1) := by decide +kernel
theorem d_F_fullest_6 : decode b_F_fullest 6 = .ok (.bipush 12, 2) := by decide +kernel
theorem d_F_fullest_8 : decode b_F_fullest 8 = .ok (.if_icmp .ge 56, 3) := by decide +kernel
theorem d_F_fullest_11 : decode b_F_fullest 11 = .ok (.iload_n 1, 1) := by decide +kernel
theorem d_F_fullest_12 : decode b_F_fullest 12 = .ok (.iload_n 3, 1) := by decide +kernel
theorem d_F_fullest_13 : decode b_F_fullest 13 = .ok (.ishr, 1) := by decide +kernel
theorem d_F_fullest_14 : decode b_F_fullest 14 = .ok (.iconst 1, 1) := by decide +kernel
theorem d_F_fullest_15 : decode b_F_fullest 15 = .ok (.iand, 1) := by decide +kernel
theorem d_F_fullest_16 : decode b_F_fullest 16 = .ok (.ifCond .ne 7, 3) := by decide +kernel
theorem d_F_fullest_19 : decode b_F_fullest 19 = .ok (.iconst 1, 1) := by decide +kernel
theorem d_F_fullest_20 : decode b_F_fullest 20 = .ok (.goto 4, 3) := by decide +kernel
theorem d_F_fullest_23 : decode b_F_fullest 23 = .ok (.iconst 0, 1) := by decide +kernel
theorem d_F_fullest_24 : decode b_F_fullest 24 = .ok (.istore 4, 2) := by decide +kernel
theorem d_F_fullest_26 : decode b_F_fullest 26 = .ok (.iload 4, 2) := by decide +kernel
theorem d_F_fullest_28 : decode b_F_fullest 28 = .ok (.ifCond .eq 30, 3) := by decide +kernel
theorem d_F_fullest_31 : decode b_F_fullest 31 = .ok (.iload_n 2, 1) := by decide +kernel
theorem d_F_fullest_32 : decode b_F_fullest 32 = .ok (.bipush 12, 2) := by decide +kernel
theorem d_F_fullest_34 : decode b_F_fullest 34 = .ok (.if_icmp .eq 22, 3) := by decide +kernel
theorem d_F_fullest_37 : decode b_F_fullest 37 = .ok (.aload_n 0, 1) := by decide +kernel
theorem d_F_fullest_38 : decode b_F_fullest 38 = .ok (.getfield 9, 3) := by decide +kernel
theorem d_F_fullest_41 : decode b_F_fullest 41 = .ok (.iload_n 3, 1) := by decide +kernel
theorem d_F_fullest_42 : decode b_F_fullest 42 = .ok (.invokevirtual 25, 3) := by decide +kernel
theorem d_F_fullest_45 : decode b_F_fullest 45 = .ok (.aload_n 0, 1) := by decide +kernel
theorem d_F_fullest_46 : decode b_F_fullest 46 = .ok (.getfield 9, 3) := by decide +kernel
theorem d_F_fullest_49 : decode b_F_fullest 49 = .ok (.iload_n 2, 1) := by decide +kernel
theorem d_F_fullest_50 : decode b_F_fullest 50 = .ok (.invokevirtual 25, 3) := by decide +kernel
theorem d_F_fullest_53 : decode b_F_fullest 53 = .ok (.if_icmp .le 5, 3) := by decide +kernel
theorem d_F_fullest_56 : decode b_F_fullest 56 = .ok (.iload_n 3, 1) := by decide +kernel
theorem d_F_fullest_57 : decode b_F_fullest 57 = .ok (.istore_n 2, 1) := by decide +kernel
theorem d_F_fullest_58 : decode b_F_fullest 58 = .ok (.iinc 3 1, 3) := by decide +kernel
theorem d_F_fullest_61 : decode b_F_fullest 61 = .ok (.goto (-56), 3) := by decide +kernel
theorem d_F_fullest_64 : decode b_F_fullest 64 = .ok (.iload_n 2, 1) := by decide +kernel
theorem d_F_fullest_65 : decode b_F_fullest 65 = .ok (.ireturn, 1) := by decide +kernel
theorem d_N_heldFor_0 : decode b_N_heldFor 0 = .ok (.iload_n 1, 1) := by decide +kernel
theorem d_N_heldFor_1 : decode b_N_heldFor 1 = .ok (.ifCond .lt 21, 3) := by decide +kernel
theorem d_N_heldFor_4 : decode b_N_heldFor 4 = .ok (.iload_n 1, 1) := by decide +kernel
theorem d_N_heldFor_5 : decode b_N_heldFor 5 = .ok (.aload_n 0, 1) := by decide +kernel
theorem d_N_heldFor_6 : decode b_N_heldFor 6 = .ok (.getfield 28, 3) := by decide +kernel
theorem d_N_heldFor_9 : decode b_N_heldFor 9 = .ok (.arraylength, 1) := by decide +kernel
theorem d_N_heldFor_10 : decode b_N_heldFor 10 = .ok (.if_icmp .ge 12, 3) := by decide +kernel
theorem d_N_heldFor_13 : decode b_N_heldFor 13 = .ok (.aload_n 0, 1) := by decide +kernel
theorem d_N_heldFor_14 : decode b_N_heldFor 14 = .ok (.getfield 28, 3) := by decide +kernel
theorem d_N_heldFor_17 : decode b_N_heldFor 17 = .ok (.iload_n 1, 1) := by decide +kernel
theorem d_N_heldFor_18 : decode b_N_heldFor 18 = .ok (.iaload, 1) := by decide +kernel
theorem d_N_heldFor_19 : decode b_N_heldFor 19 = .ok (.goto 4, 3) := by decide +kernel
theorem d_N_heldFor_22 : decode b_N_heldFor 22 = .ok (.iconst 0, 1) := by decide +kernel
theorem d_N_heldFor_23 : decode b_N_heldFor 23 = .ok (.ireturn, 1) := by decide +kernel
theorem d_F_sift_0 : decode b_F_sift 0 = .ok (.aload_n 0, 1) := by decide +kernel
theorem d_F_sift_1 : decode b_F_sift 1 = .ok (.getfield 9, 3) := by decide +kernel
theorem d_F_sift_4 : decode b_F_sift 4 = .ok (.iload_n 1, 1) := by decide +kernel
theorem d_F_sift_5 : decode b_F_sift 5 = .ok (.invokevirtual 32, 3) := by decide +kernel
theorem d_F_sift_8 : decode b_F_sift 8 = .ok (.istore_n 2, 1) := by decide +kernel
theorem d_F_sift_9 : decode b_F_sift 9 = .ok (.iload_n 2, 1) := by decide +kernel
theorem d_F_sift_10 : decode b_F_sift 10 = .ok (.istore_n 3, 1) := by decide +kernel
theorem d_F_sift_11 : decode b_F_sift 11 = .ok (.iload_n 2, 1) := by decide +kernel
theorem d_F_sift_12 : decode b_F_sift 12 = .ok (.istore 4, 2) := by decide +kernel
theorem d_F_sift_14 : decode b_F_sift 14 = .ok (.aload_n 0, 1) := by decide +kernel
theorem d_F_sift_15 : decode b_F_sift 15 = .ok (.getfield 9, 3) := by decide +kernel
theorem d_F_sift_18 : decode b_F_sift 18 = .ok (.invokevirtual 35, 3) := by decide +kernel
theorem d_F_sift_21 : decode b_F_sift 21 = .ok (.istore 5, 2) := by decide +kernel
theorem d_F_sift_23 : decode b_F_sift 23 = .ok (.iload 5, 2) := by decide +kernel
theorem d_F_sift_25 : decode b_F_sift 25 = .ok (.iload 5, 2) := by decide +kernel
theorem d_F_sift_27 : decode b_F_sift 27 = .ok (.iconst 4, 1) := by decide +kernel
theorem d_F_sift_28 : decode b_F_sift 28 = .ok (.idiv, 1) := by decide +kernel
theorem d_F_sift_29 : decode b_F_sift 29 = .ok (.iadd, 1) := by decide +kernel
theorem d_F_sift_30 : decode b_F_sift 30 = .ok (.istore 6, 2) := by decide +kernel
theorem d_F_sift_32 : decode b_F_sift 32 = .ok (.iload_n 3, 1) := by decide +kernel
theorem d_F_sift_33 : decode b_F_sift 33 = .ok (.iconst 1, 1) := by decide +kernel
theorem d_F_sift_34 : decode b_F_sift 34 = .ok (.iadd, 1) := by decide +kernel
theorem d_F_sift_35 : decode b_F_sift 35 = .ok (.bipush 12, 2) := by decide +kernel
theorem d_F_sift_37 : decode b_F_sift 37 = .ok (.if_icmp .ge 55, 3) := by decide +kernel
theorem d_F_sift_40 : decode b_F_sift 40 = .ok (.aload_n 0, 1) := by decide +kernel
theorem d_F_sift_41 : decode b_F_sift 41 = .ok (.getfield 9, 3) := by decide +kernel
theorem d_F_sift_44 : decode b_F_sift 44 = .ok (.invokevirtual 35, 3) := by decide +kernel
theorem d_F_sift_47 : decode b_F_sift 47 = .ok (.iload 6, 2) := by decide +kernel
theorem d_F_sift_49 : decode b_F_sift 49 = .ok (.if_icmp .gt 43, 3) := by decide +kernel
theorem d_F_sift_52 : decode b_F_sift 52 = .ok (.aload_n 0, 1) := by decide +kernel
theorem d_F_sift_53 : decode b_F_sift 53 = .ok (.getfield 9, 3) := by decide +kernel
theorem d_F_sift_56 : decode b_F_sift 56 = .ok (.iload_n 3, 1) := by decide +kernel
theorem d_F_sift_57 : decode b_F_sift 57 = .ok (.invokevirtual 38, 3) := by decide +kernel
theorem d_F_sift_60 : decode b_F_sift 60 = .ok (.aload_n 0, 1) := by decide +kernel
theorem d_F_sift_61 : decode b_F_sift 61 = .ok (.getfield 9, 3) := by decide +kernel
theorem d_F_sift_64 : decode b_F_sift 64 = .ok (.invokevirtual 35, 3) := by decide +kernel
theorem d_F_sift_67 : decode b_F_sift 67 = .ok (.iload 5, 2) := by decide +kernel
theorem d_F_sift_69 : decode b_F_sift 69 = .ok (.if_icmp .ge 17, 3) := by decide +kernel
theorem d_F_sift_72 : decode b_F_sift 72 = .ok (.aload_n 0, 1) := by decide +kernel
theorem d_F_sift_73 : decode b_F_sift 73 = .ok (.getfield 9, 3) := by decide +kernel
theorem d_F_sift_76 : decode b_F_sift 76 = .ok (.invokevirtual 35, 3) := by decide +kernel
theorem d_F_sift_79 : decode b_F_sift 79 = .ok (.istore 5, 2) := by decide +kernel
theorem d_F_sift_81 : decode b_F_sift 81 = .ok (.iload_n 3, 1) := by decide +kernel
theorem d_F_sift_82 : decode b_F_sift 82 = .ok (.iconst 1, 1) := by decide +kernel
theorem d_F_sift_83 : decode b_F_sift 83 = .ok (.iadd, 1) := by decide +kernel
theorem d_F_sift_84 : decode b_F_sift 84 = .ok (.istore 4, 2) := by decide +kernel
theorem d_F_sift_86 : decode b_F_sift 86 = .ok (.iinc 3 1, 3) := by decide +kernel
theorem d_F_sift_89 : decode b_F_sift 89 = .ok (.goto (-57), 3) := by decide +kernel
theorem d_F_sift_92 : decode b_F_sift 92 = .ok (.iload_n 3, 1) := by decide +kernel
theorem d_F_sift_93 : decode b_F_sift 93 = .ok (.iload_n 2, 1) := by decide +kernel
theorem d_F_sift_94 : decode b_F_sift 94 = .ok (.if_icmp .gt 19, 3) := by decide +kernel
theorem d_F_sift_97 : decode b_F_sift 97 = .ok (.iload_n 3, 1) := by decide +kernel
theorem d_F_sift_98 : decode b_F_sift 98 = .ok (.ifCond .le 57, 3) := by decide +kernel
theorem d_F_sift_101 : decode b_F_sift 101 = .ok (.aload_n 0, 1) := by decide +kernel
theorem d_F_sift_102 : decode b_F_sift 102 = .ok (.getfield 9, 3) := by decide +kernel
theorem d_F_sift_105 : decode b_F_sift 105 = .ok (.invokevirtual 35, 3) := by decide +kernel
theorem d_F_sift_108 : decode b_F_sift 108 = .ok (.iload 6, 2) := by decide +kernel
theorem d_F_sift_110 : decode b_F_sift 110 = .ok (.if_icmp .gt 45, 3) := by decide +kernel
theorem d_F_sift_113 : decode b_F_sift 113 = .ok (.aload_n 0, 1) := by decide +kernel
theorem d_F_sift_114 : decode b_F_sift 114 = .ok (.getfield 9, 3) := by decide +kernel
theorem d_F_sift_117 : decode b_F_sift 117 = .ok (.iload_n 3, 1) := by decide +kernel
theorem d_F_sift_118 : decode b_F_sift 118 = .ok (.iconst 1, 1) := by decide +kernel
theorem d_F_sift_119 : decode b_F_sift 119 = .ok (.isub, 1) := by decide +kernel
theorem d_F_sift_120 : decode b_F_sift 120 = .ok (.invokevirtual 38, 3) := by decide +kernel
theorem d_F_sift_123 : decode b_F_sift 123 = .ok (.aload_n 0, 1) := by decide +kernel
theorem d_F_sift_124 : decode b_F_sift 124 = .ok (.getfield 9, 3) := by decide +kernel
theorem d_F_sift_127 : decode b_F_sift 127 = .ok (.invokevirtual 35, 3) := by decide +kernel
theorem d_F_sift_130 : decode b_F_sift 130 = .ok (.iload 5, 2) := by decide +kernel
theorem d_F_sift_132 : decode b_F_sift 132 = .ok (.if_icmp .ge 17, 3) := by decide +kernel
theorem d_F_sift_135 : decode b_F_sift 135 = .ok (.aload_n 0, 1) := by decide +kernel
theorem d_F_sift_136 : decode b_F_sift 136 = .ok (.getfield 9, 3) := by decide +kernel
theorem d_F_sift_139 : decode b_F_sift 139 = .ok (.invokevirtual 35, 3) := by decide +kernel
theorem d_F_sift_142 : decode b_F_sift 142 = .ok (.istore 5, 2) := by decide +kernel
theorem d_F_sift_144 : decode b_F_sift 144 = .ok (.iload_n 3, 1) := by decide +kernel
theorem d_F_sift_145 : decode b_F_sift 145 = .ok (.iconst 1, 1) := by decide +kernel
theorem d_F_sift_146 : decode b_F_sift 146 = .ok (.isub, 1) := by decide +kernel
theorem d_F_sift_147 : decode b_F_sift 147 = .ok (.istore 4, 2) := by decide +kernel
theorem d_F_sift_149 : decode b_F_sift 149 = .ok (.iinc 3 (-1), 3) := by decide +kernel
theorem d_F_sift_152 : decode b_F_sift 152 = .ok (.goto (-60), 3) := by decide +kernel
theorem d_F_sift_155 : decode b_F_sift 155 = .ok (.iload_n 3, 1) := by decide +kernel
theorem d_F_sift_156 : decode b_F_sift 156 = .ok (.iload 4, 2) := by decide +kernel
theorem d_F_sift_158 : decode b_F_sift 158 = .ok (.if_icmp .ge 17, 3) := by decide +kernel
theorem d_F_sift_161 : decode b_F_sift 161 = .ok (.aload_n 0, 1) := by decide +kernel
theorem d_F_sift_162 : decode b_F_sift 162 = .ok (.getfield 9, 3) := by decide +kernel
theorem d_F_sift_165 : decode b_F_sift 165 = .ok (.iload_n 3, 1) := by decide +kernel
theorem d_F_sift_166 : decode b_F_sift 166 = .ok (.invokevirtual 38, 3) := by decide +kernel
theorem d_F_sift_169 : decode b_F_sift 169 = .ok (.iinc 3 1, 3) := by decide +kernel
theorem d_F_sift_172 : decode b_F_sift 172 = .ok (.goto (-17), 3) := by decide +kernel
theorem d_F_sift_175 : decode b_F_sift 175 = .ok (.return_, 1) := by decide +kernel
theorem d_N_size_0 : decode b_N_size 0 = .ok (.aload_n 0, 1) := by decide +kernel
theorem d_N_size_1 : decode b_N_size 1 = .ok (.getfield 40, 3) := by decide +kernel
theorem d_N_size_4 : decode b_N_size 4 = .ok (.ireturn, 1) := by decide +kernel
theorem d_N_swap_0 : decode b_N_swap 0 = .ok (.iload_n 1, 1) := by decide +kernel
theorem d_N_swap_1 : decode b_N_swap 1 = .ok (.ifCond .lt 22, 3) := by decide +kernel
theorem d_N_swap_4 : decode b_N_swap 4 = .ok (.iload_n 1, 1) := by decide +kernel
theorem d_N_swap_5 : decode b_N_swap 5 = .ok (.iconst 1, 1) := by decide +kernel
theorem d_N_swap_6 : decode b_N_swap 6 = .ok (.iadd, 1) := by decide +kernel
theorem d_N_swap_7 : decode b_N_swap 7 = .ok (.bipush 12, 2) := by decide +kernel
theorem d_N_swap_9 : decode b_N_swap 9 = .ok (.if_icmp .ge 14, 3) := by decide +kernel
theorem d_N_swap_12 : decode b_N_swap 12 = .ok (.iload_n 1, 1) := by decide +kernel
theorem d_N_swap_13 : decode b_N_swap 13 = .ok (.iconst 1, 1) := by decide +kernel
theorem d_N_swap_14 : decode b_N_swap 14 = .ok (.iadd, 1) := by decide +kernel
theorem d_N_swap_15 : decode b_N_swap 15 = .ok (.aload_n 0, 1) := by decide +kernel
theorem d_N_swap_16 : decode b_N_swap 16 = .ok (.getfield 34, 3) := by decide +kernel
theorem d_N_swap_19 : decode b_N_swap 19 = .ok (.arraylength, 1) := by decide +kernel
theorem d_N_swap_20 : decode b_N_swap 20 = .ok (.if_icmp .lt 4, 3) := by decide +kernel
theorem d_N_swap_23 : decode b_N_swap 23 = .ok (.return_, 1) := by decide +kernel
theorem d_N_swap_24 : decode b_N_swap 24 = .ok (.aload_n 0, 1) := by decide +kernel
theorem d_N_swap_25 : decode b_N_swap 25 = .ok (.getfield 34, 3) := by decide +kernel
theorem d_N_swap_28 : decode b_N_swap 28 = .ok (.iload_n 1, 1) := by decide +kernel
theorem d_N_swap_29 : decode b_N_swap 29 = .ok (.iaload, 1) := by decide +kernel
theorem d_N_swap_30 : decode b_N_swap 30 = .ok (.istore_n 2, 1) := by decide +kernel
theorem d_N_swap_31 : decode b_N_swap 31 = .ok (.aload_n 0, 1) := by decide +kernel
theorem d_N_swap_32 : decode b_N_swap 32 = .ok (.getfield 34, 3) := by decide +kernel
theorem d_N_swap_35 : decode b_N_swap 35 = .ok (.iload_n 1, 1) := by decide +kernel
theorem d_N_swap_36 : decode b_N_swap 36 = .ok (.iconst 1, 1) := by decide +kernel
theorem d_N_swap_37 : decode b_N_swap 37 = .ok (.iadd, 1) := by decide +kernel
theorem d_N_swap_38 : decode b_N_swap 38 = .ok (.iaload, 1) := by decide +kernel
theorem d_N_swap_39 : decode b_N_swap 39 = .ok (.istore_n 3, 1) := by decide +kernel
theorem d_N_swap_40 : decode b_N_swap 40 = .ok (.iload_n 2, 1) := by decide +kernel
theorem d_N_swap_41 : decode b_N_swap 41 = .ok (.ifCond .lt 25, 3) := by decide +kernel
theorem d_N_swap_44 : decode b_N_swap 44 = .ok (.iload_n 2, 1) := by decide +kernel
theorem d_N_swap_45 : decode b_N_swap 45 = .ok (.aload_n 0, 1) := by decide +kernel
theorem d_N_swap_46 : decode b_N_swap 46 = .ok (.getfield 31, 3) := by decide +kernel
theorem d_N_swap_49 : decode b_N_swap 49 = .ok (.arraylength, 1) := by decide +kernel
theorem d_N_swap_50 : decode b_N_swap 50 = .ok (.if_icmp .ge 16, 3) := by decide +kernel
theorem d_N_swap_53 : decode b_N_swap 53 = .ok (.iload_n 3, 1) := by decide +kernel
theorem d_N_swap_54 : decode b_N_swap 54 = .ok (.ifCond .lt 12, 3) := by decide +kernel
theorem d_N_swap_57 : decode b_N_swap 57 = .ok (.iload_n 3, 1) := by decide +kernel
theorem d_N_swap_58 : decode b_N_swap 58 = .ok (.aload_n 0, 1) := by decide +kernel
theorem d_N_swap_59 : decode b_N_swap 59 = .ok (.getfield 31, 3) := by decide +kernel
theorem d_N_swap_62 : decode b_N_swap 62 = .ok (.arraylength, 1) := by decide +kernel
theorem d_N_swap_63 : decode b_N_swap 63 = .ok (.if_icmp .lt 4, 3) := by decide +kernel
theorem d_N_swap_66 : decode b_N_swap 66 = .ok (.return_, 1) := by decide +kernel
theorem d_N_swap_67 : decode b_N_swap 67 = .ok (.aload_n 0, 1) := by decide +kernel
theorem d_N_swap_68 : decode b_N_swap 68 = .ok (.getfield 34, 3) := by decide +kernel
theorem d_N_swap_71 : decode b_N_swap 71 = .ok (.iload_n 1, 1) := by decide +kernel
theorem d_N_swap_72 : decode b_N_swap 72 = .ok (.iload_n 3, 1) := by decide +kernel
theorem d_N_swap_73 : decode b_N_swap 73 = .ok (.iastore, 1) := by decide +kernel
theorem d_N_swap_74 : decode b_N_swap 74 = .ok (.aload_n 0, 1) := by decide +kernel
theorem d_N_swap_75 : decode b_N_swap 75 = .ok (.getfield 34, 3) := by decide +kernel
theorem d_N_swap_78 : decode b_N_swap 78 = .ok (.iload_n 1, 1) := by decide +kernel
theorem d_N_swap_79 : decode b_N_swap 79 = .ok (.iconst 1, 1) := by decide +kernel
theorem d_N_swap_80 : decode b_N_swap 80 = .ok (.iadd, 1) := by decide +kernel
theorem d_N_swap_81 : decode b_N_swap 81 = .ok (.iload_n 2, 1) := by decide +kernel
theorem d_N_swap_82 : decode b_N_swap 82 = .ok (.iastore, 1) := by decide +kernel
theorem d_N_swap_83 : decode b_N_swap 83 = .ok (.aload_n 0, 1) := by decide +kernel
theorem d_N_swap_84 : decode b_N_swap 84 = .ok (.getfield 31, 3) := by decide +kernel
theorem d_N_swap_87 : decode b_N_swap 87 = .ok (.iload_n 3, 1) := by decide +kernel
theorem d_N_swap_88 : decode b_N_swap 88 = .ok (.iload_n 1, 1) := by decide +kernel
theorem d_N_swap_89 : decode b_N_swap 89 = .ok (.iastore, 1) := by decide +kernel
theorem d_N_swap_90 : decode b_N_swap 90 = .ok (.aload_n 0, 1) := by decide +kernel
theorem d_N_swap_91 : decode b_N_swap 91 = .ok (.getfield 31, 3) := by decide +kernel
theorem d_N_swap_94 : decode b_N_swap 94 = .ok (.iload_n 2, 1) := by decide +kernel
theorem d_N_swap_95 : decode b_N_swap 95 = .ok (.iload_n 1, 1) := by decide +kernel
theorem d_N_swap_96 : decode b_N_swap 96 = .ok (.iconst 1, 1) := by decide +kernel
theorem d_N_swap_97 : decode b_N_swap 97 = .ok (.iadd, 1) := by decide +kernel
theorem d_N_swap_98 : decode b_N_swap 98 = .ok (.iastore, 1) := by decide +kernel
theorem d_N_swap_99 : decode b_N_swap 99 = .ok (.aload_n 0, 1) := by decide +kernel
theorem d_N_swap_100 : decode b_N_swap 100 = .ok (.iload_n 2, 1) := by decide +kernel
theorem d_N_swap_101 : decode b_N_swap 101 = .ok (.invokevirtual 109, 3) := by decide +kernel
theorem d_N_swap_104 : decode b_N_swap 104 = .ok (.ifCond .eq 11, 3) := by decide +kernel
theorem d_N_swap_107 : decode b_N_swap 107 = .ok (.aload_n 0, 1) := by decide +kernel
theorem d_N_swap_108 : decode b_N_swap 108 = .ok (.iload_n 3, 1) := by decide +kernel
theorem d_N_swap_109 : decode b_N_swap 109 = .ok (.invokevirtual 109, 3) := by decide +kernel
theorem d_N_swap_112 : decode b_N_swap 112 = .ok (.ifCond .ne 4, 3) := by decide +kernel
theorem d_N_swap_115 : decode b_N_swap 115 = .ok (.return_, 1) := by decide +kernel
theorem d_N_swap_116 : decode b_N_swap 116 = .ok (.aload_n 0, 1) := by decide +kernel
theorem d_N_swap_117 : decode b_N_swap 117 = .ok (.aload_n 0, 1) := by decide +kernel
theorem d_N_swap_118 : decode b_N_swap 118 = .ok (.getfield 40, 3) := by decide +kernel
theorem d_N_swap_121 : decode b_N_swap 121 = .ok (.iconst 2, 1) := by decide +kernel
theorem d_N_swap_122 : decode b_N_swap 122 = .ok (.aload_n 0, 1) := by decide +kernel
theorem d_N_swap_123 : decode b_N_swap 123 = .ok (.iload_n 2, 1) := by decide +kernel
theorem d_N_swap_124 : decode b_N_swap 124 = .ok (.invokevirtual 109, 3) := by decide +kernel
theorem d_N_swap_127 : decode b_N_swap 127 = .ok (.imul, 1) := by decide +kernel
theorem d_N_swap_128 : decode b_N_swap 128 = .ok (.iadd, 1) := by decide +kernel
theorem d_N_swap_129 : decode b_N_swap 129 = .ok (.invokevirtual 93, 3) := by decide +kernel
theorem d_N_swap_132 : decode b_N_swap 132 = .ok (.aload_n 0, 1) := by decide +kernel
theorem d_N_swap_133 : decode b_N_swap 133 = .ok (.iload_n 2, 1) := by decide +kernel
theorem d_N_swap_134 : decode b_N_swap 134 = .ok (.iload_n 3, 1) := by decide +kernel
theorem d_N_swap_135 : decode b_N_swap 135 = .ok (.invokevirtual 112, 3) := by decide +kernel
theorem d_N_swap_138 : decode b_N_swap 138 = .ok (.istore 4, 2) := by decide +kernel
theorem d_N_swap_140 : decode b_N_swap 140 = .ok (.iconst 0, 1) := by decide +kernel
theorem d_N_swap_141 : decode b_N_swap 141 = .ok (.istore 5, 2) := by decide +kernel
theorem d_N_swap_143 : decode b_N_swap 143 = .ok (.iload 5, 2) := by decide +kernel
theorem d_N_swap_145 : decode b_N_swap 145 = .ok (.sipush 24800, 3) := by decide +kernel
theorem d_N_swap_148 : decode b_N_swap 148 = .ok (.if_icmp .ge 35, 3) := by decide +kernel
theorem d_N_swap_151 : decode b_N_swap 151 = .ok (.iload 4, 2) := by decide +kernel
theorem d_N_swap_153 : decode b_N_swap 153 = .ok (.ifCond .eq 30, 3) := by decide +kernel
theorem d_N_swap_156 : decode b_N_swap 156 = .ok (.aload_n 0, 1) := by decide +kernel
theorem d_N_swap_157 : decode b_N_swap 157 = .ok (.iload 4, 2) := by decide +kernel
theorem d_N_swap_159 : decode b_N_swap 159 = .ok (.iconst 3, 1) := by decide +kernel
theorem d_N_swap_160 : decode b_N_swap 160 = .ok (.invokevirtual 46, 3) := by decide +kernel
theorem d_N_swap_163 : decode b_N_swap 163 = .ok (.istore 6, 2) := by decide +kernel
theorem d_N_swap_165 : decode b_N_swap 165 = .ok (.aload_n 0, 1) := by decide +kernel
theorem d_N_swap_166 : decode b_N_swap 166 = .ok (.iload 4, 2) := by decide +kernel
theorem d_N_swap_168 : decode b_N_swap 168 = .ok (.iload_n 2, 1) := by decide +kernel
theorem d_N_swap_169 : decode b_N_swap 169 = .ok (.iload_n 3, 1) := by decide +kernel
theorem d_N_swap_170 : decode b_N_swap 170 = .ok (.invokevirtual 115, 3) := by decide +kernel
theorem d_N_swap_173 : decode b_N_swap 173 = .ok (.iload 6, 2) := by decide +kernel
theorem d_N_swap_175 : decode b_N_swap 175 = .ok (.istore 4, 2) := by decide +kernel
theorem d_N_swap_177 : decode b_N_swap 177 = .ok (.iinc 5 1, 3) := by decide +kernel
theorem d_N_swap_180 : decode b_N_swap 180 = .ok (.goto (-37), 3) := by decide +kernel
theorem d_N_swap_183 : decode b_N_swap 183 = .ok (.return_, 1) := by decide +kernel
theorem d_N_detach_0 : decode b_N_detach 0 = .ok (.iconst 0, 1) := by decide +kernel
theorem d_N_detach_1 : decode b_N_detach 1 = .ok (.istore_n 3, 1) := by decide +kernel
theorem d_N_detach_2 : decode b_N_detach 2 = .ok (.iload_n 1, 1) := by decide +kernel
theorem d_N_detach_3 : decode b_N_detach 3 = .ok (.bipush 64, 2) := by decide +kernel
theorem d_N_detach_5 : decode b_N_detach 5 = .ok (.imul, 1) := by decide +kernel
theorem d_N_detach_6 : decode b_N_detach 6 = .ok (.istore 4, 2) := by decide +kernel
theorem d_N_detach_8 : decode b_N_detach 8 = .ok (.iload 4, 2) := by decide +kernel
theorem d_N_detach_10 : decode b_N_detach 10 = .ok (.istore 5, 2) := by decide +kernel
theorem d_N_detach_12 : decode b_N_detach 12 = .ok (.iload 5, 2) := by decide +kernel
theorem d_N_detach_14 : decode b_N_detach 14 = .ok (.iload 4, 2) := by decide +kernel
theorem d_N_detach_16 : decode b_N_detach 16 = .ok (.bipush 64, 2) := by decide +kernel
theorem d_N_detach_18 : decode b_N_detach 18 = .ok (.iadd, 1) := by decide +kernel
theorem d_N_detach_19 : decode b_N_detach 19 = .ok (.if_icmp .ge 164, 3) := by decide +kernel
theorem d_N_detach_22 : decode b_N_detach 22 = .ok (.iload 5, 2) := by decide +kernel
theorem d_N_detach_24 : decode b_N_detach 24 = .ok (.ifCond .lt 26, 3) := by decide +kernel
theorem d_N_detach_27 : decode b_N_detach 27 = .ok (.iload 5, 2) := by decide +kernel
theorem d_N_detach_29 : decode b_N_detach 29 = .ok (.aload_n 0, 1) := by decide +kernel
theorem d_N_detach_30 : decode b_N_detach 30 = .ok (.getfield 25, 3) := by decide +kernel
theorem d_N_detach_33 : decode b_N_detach 33 = .ok (.arraylength, 1) := by decide +kernel
theorem d_N_detach_34 : decode b_N_detach 34 = .ok (.if_icmp .ge 16, 3) := by decide +kernel
theorem d_N_detach_37 : decode b_N_detach 37 = .ok (.iload_n 1, 1) := by decide +kernel
theorem d_N_detach_38 : decode b_N_detach 38 = .ok (.ifCond .lt 12, 3) := by decide +kernel
theorem d_N_detach_41 : decode b_N_detach 41 = .ok (.iload_n 1, 1) := by decide +kernel
theorem d_N_detach_42 : decode b_N_detach 42 = .ok (.aload_n 0, 1) := by decide +kernel
theorem d_N_detach_43 : decode b_N_detach 43 = .ok (.getfield 28, 3) := by decide +kernel
theorem d_N_detach_46 : decode b_N_detach 46 = .ok (.arraylength, 1) := by decide +kernel
theorem d_N_detach_47 : decode b_N_detach 47 = .ok (.if_icmp .lt 5, 3) := by decide +kernel
theorem d_N_detach_50 : decode b_N_detach 50 = .ok (.iload_n 3, 1) := by decide +kernel
theorem d_N_detach_51 : decode b_N_detach 51 = .ok (.ireturn, 1) := by decide +kernel
theorem d_N_detach_52 : decode b_N_detach 52 = .ok (.iconst 0, 1) := by decide +kernel
theorem d_N_detach_53 : decode b_N_detach 53 = .ok (.istore 6, 2) := by decide +kernel
theorem d_N_detach_55 : decode b_N_detach 55 = .ok (.aload_n 0, 1) := by decide +kernel
theorem d_N_detach_56 : decode b_N_detach 56 = .ok (.getfield 25, 3) := by decide +kernel
theorem d_N_detach_59 : decode b_N_detach 59 = .ok (.iload 5, 2) := by decide +kernel
theorem d_N_detach_61 : decode b_N_detach 61 = .ok (.iaload, 1) := by decide +kernel
theorem d_N_detach_62 : decode b_N_detach 62 = .ok (.istore 7, 2) := by decide +kernel
theorem d_N_detach_64 : decode b_N_detach 64 = .ok (.iconst 0, 1) := by decide +kernel
theorem d_N_detach_65 : decode b_N_detach 65 = .ok (.istore 8, 2) := by decide +kernel
theorem d_N_detach_67 : decode b_N_detach 67 = .ok (.iload 8, 2) := by decide +kernel
theorem d_N_detach_69 : decode b_N_detach 69 = .ok (.sipush 24800, 3) := by decide +kernel
theorem d_N_detach_72 : decode b_N_detach 72 = .ok (.if_icmp .ge 96, 3) := by decide +kernel
theorem d_N_detach_75 : decode b_N_detach 75 = .ok (.iload 7, 2) := by decide +kernel
theorem d_N_detach_77 : decode b_N_detach 77 = .ok (.ifCond .eq 91, 3) := by decide +kernel
theorem d_N_detach_80 : decode b_N_detach 80 = .ok (.aload_n 0, 1) := by decide +kernel
theorem d_N_detach_81 : decode b_N_detach 81 = .ok (.iload 7, 2) := by decide +kernel
theorem d_N_detach_83 : decode b_N_detach 83 = .ok (.iconst 3, 1) := by decide +kernel
theorem d_N_detach_84 : decode b_N_detach 84 = .ok (.invokevirtual 46, 3) := by decide +kernel
theorem d_N_detach_87 : decode b_N_detach 87 = .ok (.istore 9, 2) := by decide +kernel
theorem d_N_detach_89 : decode b_N_detach 89 = .ok (.aload_n 0, 1) := by decide +kernel
theorem d_N_detach_90 : decode b_N_detach 90 = .ok (.aload_n 0, 1) := by decide +kernel
theorem d_N_detach_91 : decode b_N_detach 91 = .ok (.iload 7, 2) := by decide +kernel
theorem d_N_detach_93 : decode b_N_detach 93 = .ok (.iconst 1, 1) := by decide +kernel
theorem d_N_detach_94 : decode b_N_detach 94 = .ok (.invokevirtual 46, 3) := by decide +kernel
theorem d_N_detach_97 : decode b_N_detach 97 = .ok (.iconst 0, 1) := by decide +kernel
theorem d_N_detach_98 : decode b_N_detach 98 = .ok (.invokevirtual 46, 3) := by decide +kernel
theorem d_N_detach_101 : decode b_N_detach 101 = .ok (.iload_n 2, 1) := by decide +kernel
theorem d_N_detach_102 : decode b_N_detach 102 = .ok (.if_icmp .eq 19, 3) := by decide +kernel
theorem d_N_detach_105 : decode b_N_detach 105 = .ok (.aload_n 0, 1) := by decide +kernel
theorem d_N_detach_106 : decode b_N_detach 106 = .ok (.aload_n 0, 1) := by decide +kernel
theorem d_N_detach_107 : decode b_N_detach 107 = .ok (.iload 7, 2) := by decide +kernel
theorem d_N_detach_109 : decode b_N_detach 109 = .ok (.iconst 2, 1) := by decide +kernel
theorem d_N_detach_110 : decode b_N_detach 110 = .ok (.invokevirtual 46, 3) := by decide +kernel
theorem d_N_detach_113 : decode b_N_detach 113 = .ok (.iconst 0, 1) := by decide +kernel
theorem d_N_detach_114 : decode b_N_detach 114 = .ok (.invokevirtual 46, 3) := by decide +kernel
theorem d_N_detach_117 : decode b_N_detach 117 = .ok (.iload_n 2, 1) := by decide +kernel
theorem d_N_detach_118 : decode b_N_detach 118 = .ok (.if_icmp .ne 27, 3) := by decide +kernel
theorem d_N_detach_121 : decode b_N_detach 121 = .ok (.aload_n 0, 1) := by decide +kernel
theorem d_N_detach_122 : decode b_N_detach 122 = .ok (.iload 7, 2) := by decide +kernel
theorem d_N_detach_124 : decode b_N_detach 124 = .ok (.iconst 3, 1) := by decide +kernel
theorem d_N_detach_125 : decode b_N_detach 125 = .ok (.iload_n 3, 1) := by decide +kernel
theorem d_N_detach_126 : decode b_N_detach 126 = .ok (.invokevirtual 65, 3) := by decide +kernel
theorem d_N_detach_129 : decode b_N_detach 129 = .ok (.iload 7, 2) := by decide +kernel
theorem d_N_detach_131 : decode b_N_detach 131 = .ok (.istore_n 3, 1) := by decide +kernel
theorem d_N_detach_132 : decode b_N_detach 132 = .ok (.aload_n 0, 1) := by decide +kernel
theorem d_N_detach_133 : decode b_N_detach 133 = .ok (.getfield 28, 3) := by decide +kernel
theorem d_N_detach_136 : decode b_N_detach 136 = .ok (.iload_n 1, 1) := by decide +kernel
theorem d_N_detach_137 : decode b_N_detach 137 = .ok (.dup2, 1) := by decide +kernel
theorem d_N_detach_138 : decode b_N_detach 138 = .ok (.iaload, 1) := by decide +kernel
theorem d_N_detach_139 : decode b_N_detach 139 = .ok (.iconst 1, 1) := by decide +kernel
theorem d_N_detach_140 : decode b_N_detach 140 = .ok (.isub, 1) := by decide +kernel
theorem d_N_detach_141 : decode b_N_detach 141 = .ok (.iastore, 1) := by decide +kernel
theorem d_N_detach_142 : decode b_N_detach 142 = .ok (.goto 16, 3) := by decide +kernel
theorem d_N_detach_145 : decode b_N_detach 145 = .ok (.aload_n 0, 1) := by decide +kernel
theorem d_N_detach_146 : decode b_N_detach 146 = .ok (.iload 7, 2) := by decide +kernel
theorem d_N_detach_148 : decode b_N_detach 148 = .ok (.iconst 3, 1) := by decide +kernel
theorem d_N_detach_149 : decode b_N_detach 149 = .ok (.iload 6, 2) := by decide +kernel
theorem d_N_detach_151 : decode b_N_detach 151 = .ok (.invokevirtual 65, 3) := by decide +kernel
theorem d_N_detach_154 : decode b_N_detach 154 = .ok (.iload 7, 2) := by decide +kernel
theorem d_N_detach_156 : decode b_N_detach 156 = .ok (.istore 6, 2) := by decide +kernel
theorem d_N_detach_158 : decode b_N_detach 158 = .ok (.iload 9, 2) := by decide +kernel
theorem d_N_detach_160 : decode b_N_detach 160 = .ok (.istore 7, 2) := by decide +kernel
theorem d_N_detach_162 : decode b_N_detach 162 = .ok (.iinc 8 1, 3) := by decide +kernel
theorem d_N_detach_165 : decode b_N_detach 165 = .ok (.goto (-98), 3) := by decide +kernel
theorem d_N_detach_168 : decode b_N_detach 168 = .ok (.aload_n 0, 1) := by decide +kernel
theorem d_N_detach_169 : decode b_N_detach 169 = .ok (.getfield 25, 3) := by decide +kernel
theorem d_N_detach_172 : decode b_N_detach 172 = .ok (.iload 5, 2) := by decide +kernel
theorem d_N_detach_174 : decode b_N_detach 174 = .ok (.iload 6, 2) := by decide +kernel
theorem d_N_detach_176 : decode b_N_detach 176 = .ok (.iastore, 1) := by decide +kernel
theorem d_N_detach_177 : decode b_N_detach 177 = .ok (.iinc 5 1, 3) := by decide +kernel
theorem d_N_detach_180 : decode b_N_detach 180 = .ok (.goto (-168), 3) := by decide +kernel
theorem d_N_detach_183 : decode b_N_detach 183 = .ok (.iload_n 3, 1) := by decide +kernel
theorem d_N_detach_184 : decode b_N_detach 184 = .ok (.ireturn, 1) := by decide +kernel
theorem d_N_rewrite_0 : decode b_N_rewrite 0 = .ok (.aload_n 0, 1) := by decide +kernel
theorem d_N_rewrite_1 : decode b_N_rewrite 1 = .ok (.iload_n 1, 1) := by decide +kernel
theorem d_N_rewrite_2 : decode b_N_rewrite 2 = .ok (.iconst 1, 1) := by decide +kernel
theorem d_N_rewrite_3 : decode b_N_rewrite 3 = .ok (.invokevirtual 46, 3) := by decide +kernel
theorem d_N_rewrite_6 : decode b_N_rewrite 6 = .ok (.istore 4, 2) := by decide +kernel
theorem d_N_rewrite_8 : decode b_N_rewrite 8 = .ok (.aload_n 0, 1) := by decide +kernel
theorem d_N_rewrite_9 : decode b_N_rewrite 9 = .ok (.iload_n 1, 1) := by decide +kernel
theorem d_N_rewrite_10 : decode b_N_rewrite 10 = .ok (.iconst 2, 1) := by decide +kernel
theorem d_N_rewrite_11 : decode b_N_rewrite 11 = .ok (.invokevirtual 46, 3) := by decide +kernel
theorem d_N_rewrite_14 : decode b_N_rewrite 14 = .ok (.istore 5, 2) := by decide +kernel
theorem d_N_rewrite_16 : decode b_N_rewrite 16 = .ok (.aload_n 0, 1) := by decide +kernel
theorem d_N_rewrite_17 : decode b_N_rewrite 17 = .ok (.iload_n 2, 1) := by decide +kernel
theorem d_N_rewrite_18 : decode b_N_rewrite 18 = .ok (.aload_n 0, 1) := by decide +kernel
theorem d_N_rewrite_19 : decode b_N_rewrite 19 = .ok (.iload 4, 2) := by decide +kernel
theorem d_N_rewrite_21 : decode b_N_rewrite 21 = .ok (.iload_n 3, 1) := by decide +kernel
theorem d_N_rewrite_22 : decode b_N_rewrite 22 = .ok (.invokevirtual 118, 3) := by decide +kernel
theorem d_N_rewrite_25 : decode b_N_rewrite 25 = .ok (.aload_n 0, 1) := by decide +kernel
theorem d_N_rewrite_26 : decode b_N_rewrite 26 = .ok (.iload 5, 2) := by decide +kernel
theorem d_N_rewrite_28 : decode b_N_rewrite 28 = .ok (.iload_n 3, 1) := by decide +kernel
theorem d_N_rewrite_29 : decode b_N_rewrite 29 = .ok (.invokevirtual 118, 3) := by decide +kernel
theorem d_N_rewrite_32 : decode b_N_rewrite 32 = .ok (.invokevirtual 121, 3) := by decide +kernel
theorem d_N_rewrite_35 : decode b_N_rewrite 35 = .ok (.istore 6, 2) := by decide +kernel
theorem d_N_rewrite_37 : decode b_N_rewrite 37 = .ok (.aload_n 0, 1) := by decide +kernel
theorem d_N_rewrite_38 : decode b_N_rewrite 38 = .ok (.iload_n 2, 1) := by decide +kernel
theorem d_N_rewrite_39 : decode b_N_rewrite 39 = .ok (.aload_n 0, 1) := by decide +kernel
theorem d_N_rewrite_40 : decode b_N_rewrite 40 = .ok (.iload 4, 2) := by decide +kernel
theorem d_N_rewrite_42 : decode b_N_rewrite 42 = .ok (.iload_n 3, 1) := by decide +kernel
theorem d_N_rewrite_43 : decode b_N_rewrite 43 = .ok (.invokevirtual 124, 3) := by decide +kernel
theorem d_N_rewrite_46 : decode b_N_rewrite 46 = .ok (.aload_n 0, 1) := by decide +kernel
theorem d_N_rewrite_47 : decode b_N_rewrite 47 = .ok (.iload 5, 2) := by decide +kernel
theorem d_N_rewrite_49 : decode b_N_rewrite 49 = .ok (.iload_n 3, 1) := by decide +kernel
theorem d_N_rewrite_50 : decode b_N_rewrite 50 = .ok (.invokevirtual 124, 3) := by decide +kernel
theorem d_N_rewrite_53 : decode b_N_rewrite 53 = .ok (.invokevirtual 121, 3) := by decide +kernel
theorem d_N_rewrite_56 : decode b_N_rewrite 56 = .ok (.istore 7, 2) := by decide +kernel
theorem d_N_rewrite_58 : decode b_N_rewrite 58 = .ok (.aload_n 0, 1) := by decide +kernel
theorem d_N_rewrite_59 : decode b_N_rewrite 59 = .ok (.iload 6, 2) := by decide +kernel
theorem d_N_rewrite_61 : decode b_N_rewrite 61 = .ok (.iconst 1, 1) := by decide +kernel
theorem d_N_rewrite_62 : decode b_N_rewrite 62 = .ok (.invokevirtual 77, 3) := by decide +kernel
theorem d_N_rewrite_65 : decode b_N_rewrite 65 = .ok (.aload_n 0, 1) := by decide +kernel
theorem d_N_rewrite_66 : decode b_N_rewrite 66 = .ok (.iload 7, 2) := by decide +kernel
theorem d_N_rewrite_68 : decode b_N_rewrite 68 = .ok (.iconst 1, 1) := by decide +kernel
theorem d_N_rewrite_69 : decode b_N_rewrite 69 = .ok (.invokevirtual 77, 3) := by decide +kernel
theorem d_N_rewrite_72 : decode b_N_rewrite 72 = .ok (.aload_n 0, 1) := by decide +kernel
theorem d_N_rewrite_73 : decode b_N_rewrite 73 = .ok (.iload_n 1, 1) := by decide +kernel
theorem d_N_rewrite_74 : decode b_N_rewrite 74 = .ok (.iload_n 3, 1) := by decide +kernel
theorem d_N_rewrite_75 : decode b_N_rewrite 75 = .ok (.iload 6, 2) := by decide +kernel
theorem d_N_rewrite_77 : decode b_N_rewrite 77 = .ok (.iload 7, 2) := by decide +kernel
theorem d_N_rewrite_79 : decode b_N_rewrite 79 = .ok (.invokevirtual 81, 3) := by decide +kernel
theorem d_N_rewrite_82 : decode b_N_rewrite 82 = .ok (.aload_n 0, 1) := by decide +kernel
theorem d_N_rewrite_83 : decode b_N_rewrite 83 = .ok (.iload 4, 2) := by decide +kernel
theorem d_N_rewrite_85 : decode b_N_rewrite 85 = .ok (.invokevirtual 127, 3) := by decide +kernel
theorem d_N_rewrite_88 : decode b_N_rewrite 88 = .ok (.aload_n 0, 1) := by decide +kernel
theorem d_N_rewrite_89 : decode b_N_rewrite 89 = .ok (.iload 5, 2) := by decide +kernel
theorem d_N_rewrite_91 : decode b_N_rewrite 91 = .ok (.invokevirtual 127, 3) := by decide +kernel
theorem d_N_rewrite_94 : decode b_N_rewrite 94 = .ok (.aload_n 0, 1) := by decide +kernel
theorem d_N_rewrite_95 : decode b_N_rewrite 95 = .ok (.dup, 1) := by decide +kernel
theorem d_N_rewrite_96 : decode b_N_rewrite 96 = .ok (.getfield 43, 3) := by decide +kernel
theorem d_N_rewrite_99 : decode b_N_rewrite 99 = .ok (.iconst 1, 1) := by decide +kernel
theorem d_N_rewrite_100 : decode b_N_rewrite 100 = .ok (.iadd, 1) := by decide +kernel
theorem d_N_rewrite_101 : decode b_N_rewrite 101 = .ok (.putfield 43, 3) := by decide +kernel
theorem d_N_rewrite_104 : decode b_N_rewrite 104 = .ok (.return_, 1) := by decide +kernel
theorem d_N_release_0 : decode b_N_release 0 = .ok (.aload_n 0, 1) := by decide +kernel
theorem d_N_release_1 : decode b_N_release 1 = .ok (.iload_n 1, 1) := by decide +kernel
theorem d_N_release_2 : decode b_N_release 2 = .ok (.iconst (-1), 1) := by decide +kernel
theorem d_N_release_3 : decode b_N_release 3 = .ok (.invokevirtual 77, 3) := by decide +kernel
theorem d_N_release_6 : decode b_N_release 6 = .ok (.iload_n 1, 1) := by decide +kernel
theorem d_N_release_7 : decode b_N_release 7 = .ok (.iconst 1, 1) := by decide +kernel
theorem d_N_release_8 : decode b_N_release 8 = .ok (.if_icmp .le 44, 3) := by decide +kernel
theorem d_N_release_11 : decode b_N_release 11 = .ok (.aload_n 0, 1) := by decide +kernel
theorem d_N_release_12 : decode b_N_release 12 = .ok (.iload_n 1, 1) := by decide +kernel
theorem d_N_release_13 : decode b_N_release 13 = .ok (.iconst 4, 1) := by decide +kernel
theorem d_N_release_14 : decode b_N_release 14 = .ok (.invokevirtual 46, 3) := by decide +kernel
theorem d_N_release_17 : decode b_N_release 17 = .ok (.ifCond .gt 35, 3) := by decide +kernel
theorem d_N_release_20 : decode b_N_release 20 = .ok (.aload_n 0, 1) := by decide +kernel
theorem d_N_release_21 : decode b_N_release 21 = .ok (.iload_n 1, 1) := by decide +kernel
theorem d_N_release_22 : decode b_N_release 22 = .ok (.invokevirtual 130, 3) := by decide +kernel
theorem d_N_release_25 : decode b_N_release 25 = .ok (.aload_n 0, 1) := by decide +kernel
theorem d_N_release_26 : decode b_N_release 26 = .ok (.aload_n 0, 1) := by decide +kernel
theorem d_N_release_27 : decode b_N_release 27 = .ok (.iload_n 1, 1) := by decide +kernel
theorem d_N_release_28 : decode b_N_release 28 = .ok (.iconst 1, 1) := by decide +kernel
theorem d_N_release_29 : decode b_N_release 29 = .ok (.invokevirtual 46, 3) := by decide +kernel
theorem d_N_release_32 : decode b_N_release 32 = .ok (.iconst (-1), 1) := by decide +kernel
theorem d_N_release_33 : decode b_N_release 33 = .ok (.invokevirtual 77, 3) := by decide +kernel
theorem d_N_release_36 : decode b_N_release 36 = .ok (.aload_n 0, 1) := by decide +kernel
theorem d_N_release_37 : decode b_N_release 37 = .ok (.aload_n 0, 1) := by decide +kernel
theorem d_N_release_38 : decode b_N_release 38 = .ok (.iload_n 1, 1) := by decide +kernel
theorem d_N_release_39 : decode b_N_release 39 = .ok (.iconst 2, 1) := by decide +kernel
theorem d_N_release_40 : decode b_N_release 40 = .ok (.invokevirtual 46, 3) := by decide +kernel
theorem d_N_release_43 : decode b_N_release 43 = .ok (.iconst (-1), 1) := by decide +kernel
theorem d_N_release_44 : decode b_N_release 44 = .ok (.invokevirtual 77, 3) := by decide +kernel
theorem d_N_release_47 : decode b_N_release 47 = .ok (.aload_n 0, 1) := by decide +kernel
theorem d_N_release_48 : decode b_N_release 48 = .ok (.iload_n 1, 1) := by decide +kernel
theorem d_N_release_49 : decode b_N_release 49 = .ok (.invokevirtual 106, 3) := by decide +kernel
theorem d_N_release_52 : decode b_N_release 52 = .ok (.return_, 1) := by decide +kernel
theorem d_N_unlink_0 : decode b_N_unlink 0 = .ok (.aload_n 0, 1) := by decide +kernel
theorem d_N_unlink_1 : decode b_N_unlink 1 = .ok (.iload_n 1, 1) := by decide +kernel
theorem d_N_unlink_2 : decode b_N_unlink 2 = .ok (.iconst 0, 1) := by decide +kernel
theorem d_N_unlink_3 : decode b_N_unlink 3 = .ok (.invokevirtual 46, 3) := by decide +kernel
theorem d_N_unlink_6 : decode b_N_unlink 6 = .ok (.istore_n 2, 1) := by decide +kernel
theorem d_N_unlink_7 : decode b_N_unlink 7 = .ok (.iload_n 2, 1) := by decide +kernel
theorem d_N_unlink_8 : decode b_N_unlink 8 = .ok (.aload_n 0, 1) := by decide +kernel
theorem d_N_unlink_9 : decode b_N_unlink 9 = .ok (.iload_n 1, 1) := by decide +kernel
theorem d_N_unlink_10 : decode b_N_unlink 10 = .ok (.iconst 1, 1) := by decide +kernel
theorem d_N_unlink_11 : decode b_N_unlink 11 = .ok (.invokevirtual 46, 3) := by decide +kernel
theorem d_N_unlink_14 : decode b_N_unlink 14 = .ok (.aload_n 0, 1) := by decide +kernel
theorem d_N_unlink_15 : decode b_N_unlink 15 = .ok (.iload_n 1, 1) := by decide +kernel
theorem d_N_unlink_16 : decode b_N_unlink 16 = .ok (.iconst 2, 1) := by decide +kernel
theorem d_N_unlink_17 : decode b_N_unlink 17 = .ok (.invokevirtual 46, 3) := by decide +kernel
theorem d_N_unlink_20 : decode b_N_unlink 20 = .ok (.invokestatic 69, 3) := by decide +kernel
theorem d_N_unlink_23 : decode b_N_unlink 23 = .ok (.istore_n 3, 1) := by decide +kernel
theorem d_N_unlink_24 : decode b_N_unlink 24 = .ok (.iload_n 2, 1) := by decide +kernel
theorem d_N_unlink_25 : decode b_N_unlink 25 = .ok (.ifCond .lt 25, 3) := by decide +kernel
theorem d_N_unlink_28 : decode b_N_unlink 28 = .ok (.iload_n 2, 1) := by decide +kernel
theorem d_N_unlink_29 : decode b_N_unlink 29 = .ok (.aload_n 0, 1) := by decide +kernel
theorem d_N_unlink_30 : decode b_N_unlink 30 = .ok (.getfield 28, 3) := by decide +kernel
theorem d_N_unlink_33 : decode b_N_unlink 33 = .ok (.arraylength, 1) := by decide +kernel
theorem d_N_unlink_34 : decode b_N_unlink 34 = .ok (.if_icmp .ge 16, 3) := by decide +kernel
theorem d_N_unlink_37 : decode b_N_unlink 37 = .ok (.iload_n 3, 1) := by decide +kernel
theorem d_N_unlink_38 : decode b_N_unlink 38 = .ok (.ifCond .lt 12, 3) := by decide +kernel
theorem d_N_unlink_41 : decode b_N_unlink 41 = .ok (.iload_n 3, 1) := by decide +kernel
theorem d_N_unlink_42 : decode b_N_unlink 42 = .ok (.aload_n 0, 1) := by decide +kernel
theorem d_N_unlink_43 : decode b_N_unlink 43 = .ok (.getfield 25, 3) := by decide +kernel
theorem d_N_unlink_46 : decode b_N_unlink 46 = .ok (.arraylength, 1) := by decide +kernel
theorem d_N_unlink_47 : decode b_N_unlink 47 = .ok (.if_icmp .lt 4, 3) := by decide +kernel
theorem d_N_unlink_50 : decode b_N_unlink 50 = .ok (.return_, 1) := by decide +kernel
theorem d_N_unlink_51 : decode b_N_unlink 51 = .ok (.aload_n 0, 1) := by decide +kernel
theorem d_N_unlink_52 : decode b_N_unlink 52 = .ok (.getfield 28, 3) := by decide +kernel
theorem d_N_unlink_55 : decode b_N_unlink 55 = .ok (.iload_n 2, 1) := by decide +kernel
theorem d_N_unlink_56 : decode b_N_unlink 56 = .ok (.dup2, 1) := by decide +kernel
theorem d_N_unlink_57 : decode b_N_unlink 57 = .ok (.iaload, 1) := by decide +kernel
theorem d_N_unlink_58 : decode b_N_unlink 58 = .ok (.iconst 1, 1) := by decide +kernel
theorem d_N_unlink_59 : decode b_N_unlink 59 = .ok (.isub, 1) := by decide +kernel
theorem d_N_unlink_60 : decode b_N_unlink 60 = .ok (.iastore, 1) := by decide +kernel
theorem d_N_unlink_61 : decode b_N_unlink 61 = .ok (.aload_n 0, 1) := by decide +kernel
theorem d_N_unlink_62 : decode b_N_unlink 62 = .ok (.getfield 25, 3) := by decide +kernel
theorem d_N_unlink_65 : decode b_N_unlink 65 = .ok (.iload_n 3, 1) := by decide +kernel
theorem d_N_unlink_66 : decode b_N_unlink 66 = .ok (.iaload, 1) := by decide +kernel
theorem d_N_unlink_67 : decode b_N_unlink 67 = .ok (.iload_n 1, 1) := by decide +kernel
theorem d_N_unlink_68 : decode b_N_unlink 68 = .ok (.if_icmp .ne 16, 3) := by decide +kernel
theorem d_N_unlink_71 : decode b_N_unlink 71 = .ok (.aload_n 0, 1) := by decide +kernel
theorem d_N_unlink_72 : decode b_N_unlink 72 = .ok (.getfield 25, 3) := by decide +kernel
theorem d_N_unlink_75 : decode b_N_unlink 75 = .ok (.iload_n 3, 1) := by decide +kernel
theorem d_N_unlink_76 : decode b_N_unlink 76 = .ok (.aload_n 0, 1) := by decide +kernel
theorem d_N_unlink_77 : decode b_N_unlink 77 = .ok (.iload_n 1, 1) := by decide +kernel
theorem d_N_unlink_78 : decode b_N_unlink 78 = .ok (.iconst 3, 1) := by decide +kernel
theorem d_N_unlink_79 : decode b_N_unlink 79 = .ok (.invokevirtual 46, 3) := by decide +kernel
theorem d_N_unlink_82 : decode b_N_unlink 82 = .ok (.iastore, 1) := by decide +kernel
theorem d_N_unlink_83 : decode b_N_unlink 83 = .ok (.return_, 1) := by decide +kernel
theorem d_N_unlink_84 : decode b_N_unlink 84 = .ok (.aload_n 0, 1) := by decide +kernel
theorem d_N_unlink_85 : decode b_N_unlink 85 = .ok (.getfield 25, 3) := by decide +kernel
theorem d_N_unlink_88 : decode b_N_unlink 88 = .ok (.iload_n 3, 1) := by decide +kernel
theorem d_N_unlink_89 : decode b_N_unlink 89 = .ok (.iaload, 1) := by decide +kernel
theorem d_N_unlink_90 : decode b_N_unlink 90 = .ok (.istore 4, 2) := by decide +kernel
theorem d_N_unlink_92 : decode b_N_unlink 92 = .ok (.iconst 0, 1) := by decide +kernel
theorem d_N_unlink_93 : decode b_N_unlink 93 = .ok (.istore 5, 2) := by decide +kernel
theorem d_N_unlink_95 : decode b_N_unlink 95 = .ok (.iload 5, 2) := by decide +kernel
theorem d_N_unlink_97 : decode b_N_unlink 97 = .ok (.sipush 24800, 3) := by decide +kernel
theorem d_N_unlink_100 : decode b_N_unlink 100 = .ok (.if_icmp .ge 48, 3) := by decide +kernel
theorem d_N_unlink_103 : decode b_N_unlink 103 = .ok (.iload 4, 2) := by decide +kernel
theorem d_N_unlink_105 : decode b_N_unlink 105 = .ok (.ifCond .eq 43, 3) := by decide +kernel
theorem d_N_unlink_108 : decode b_N_unlink 108 = .ok (.aload_n 0, 1) := by decide +kernel
theorem d_N_unlink_109 : decode b_N_unlink 109 = .ok (.iload 4, 2) := by decide +kernel
theorem d_N_unlink_111 : decode b_N_unlink 111 = .ok (.iconst 3, 1) := by decide +kernel
theorem d_N_unlink_112 : decode b_N_unlink 112 = .ok (.invokevirtual 46, 3) := by decide +kernel
theorem d_N_unlink_115 : decode b_N_unlink 115 = .ok (.iload_n 1, 1) := by decide +kernel
theorem d_N_unlink_116 : decode b_N_unlink 116 = .ok (.if_icmp .ne 17, 3) := by decide +kernel
theorem d_N_unlink_119 : decode b_N_unlink 119 = .ok (.aload_n 0, 1) := by decide +kernel
theorem d_N_unlink_120 : decode b_N_unlink 120 = .ok (.iload 4, 2) := by decide +kernel
theorem d_N_unlink_122 : decode b_N_unlink 122 = .ok (.iconst 3, 1) := by decide +kernel
theorem d_N_unlink_123 : decode b_N_unlink 123 = .ok (.aload_n 0, 1) := by decide +kernel
theorem d_N_unlink_124 : decode b_N_unlink 124 = .ok (.iload_n 1, 1) := by decide +kernel
theorem d_N_unlink_125 : decode b_N_unlink 125 = .ok (.iconst 3, 1) := by decide +kernel
theorem d_N_unlink_126 : decode b_N_unlink 126 = .ok (.invokevirtual 46, 3) := by decide +kernel
theorem d_N_unlink_129 : decode b_N_unlink 129 = .ok (.invokevirtual 65, 3) := by decide +kernel
theorem d_N_unlink_132 : decode b_N_unlink 132 = .ok (.return_, 1) := by decide +kernel
theorem d_N_unlink_133 : decode b_N_unlink 133 = .ok (.aload_n 0, 1) := by decide +kernel
theorem d_N_unlink_134 : decode b_N_unlink 134 = .ok (.iload 4, 2) := by decide +kernel
theorem d_N_unlink_136 : decode b_N_unlink 136 = .ok (.iconst 3, 1) := by decide +kernel
theorem d_N_unlink_137 : decode b_N_unlink 137 = .ok (.invokevirtual 46, 3) := by decide +kernel
theorem d_N_unlink_140 : decode b_N_unlink 140 = .ok (.istore 4, 2) := by decide +kernel
theorem d_N_unlink_142 : decode b_N_unlink 142 = .ok (.iinc 5 1, 3) := by decide +kernel
theorem d_N_unlink_145 : decode b_N_unlink 145 = .ok (.goto (-50), 3) := by decide +kernel
theorem d_N_unlink_148 : decode b_N_unlink 148 = .ok (.return_, 1) := by decide +kernel
theorem d_F_turnRound_0 : decode b_F_turnRound 0 = .ok (.bipush 11, 2) := by decide +kernel
theorem d_F_turnRound_2 : decode b_F_turnRound 2 = .ok (.istore_n 1, 1) := by decide +kernel
theorem d_F_turnRound_3 : decode b_F_turnRound 3 = .ok (.iload_n 1, 1) := by decide +kernel
theorem d_F_turnRound_4 : decode b_F_turnRound 4 = .ok (.ifCond .le 30, 3) := by decide +kernel
theorem d_F_turnRound_7 : decode b_F_turnRound 7 = .ok (.iconst 0, 1) := by decide +kernel
theorem d_F_turnRound_8 : decode b_F_turnRound 8 = .ok (.istore_n 2, 1) := by decide +kernel
theorem d_F_turnRound_9 : decode b_F_turnRound 9 = .ok (.iload_n 2, 1) := by decide +kernel
theorem d_F_turnRound_10 : decode b_F_turnRound 10 = .ok (.iload_n 1, 1) := by decide +kernel
theorem d_F_turnRound_11 : decode b_F_turnRound 11 = .ok (.if_icmp .ge 17, 3) := by decide +kernel
theorem d_F_turnRound_14 : decode b_F_turnRound 14 = .ok (.aload_n 0, 1) := by decide +kernel
theorem d_F_turnRound_15 : decode b_F_turnRound 15 = .ok (.getfield 9, 3) := by decide +kernel
theorem d_F_turnRound_18 : decode b_F_turnRound 18 = .ok (.iload_n 2, 1) := by decide +kernel
theorem d_F_turnRound_19 : decode b_F_turnRound 19 = .ok (.invokevirtual 38, 3) := by decide +kernel
theorem d_F_turnRound_22 : decode b_F_turnRound 22 = .ok (.iinc 2 1, 3) := by decide +kernel
theorem d_F_turnRound_25 : decode b_F_turnRound 25 = .ok (.goto (-16), 3) := by decide +kernel
theorem d_F_turnRound_28 : decode b_F_turnRound 28 = .ok (.iinc 1 (-1), 3) := by decide +kernel
theorem d_F_turnRound_31 : decode b_F_turnRound 31 = .ok (.goto (-28), 3) := by decide +kernel
theorem d_F_turnRound_34 : decode b_F_turnRound 34 = .ok (.return_, 1) := by decide +kernel
theorem d_S_slotsNotFalse_0 : decode b_S_slotsNotFalse 0 = .ok (.iconst 0, 1) := by decide +kernel
theorem d_S_slotsNotFalse_1 : decode b_S_slotsNotFalse 1 = .ok (.istore_n 1, 1) := by decide +kernel
theorem d_S_slotsNotFalse_2 : decode b_S_slotsNotFalse 2 = .ok (.aload_n 0, 1) := by decide +kernel
theorem d_S_slotsNotFalse_3 : decode b_S_slotsNotFalse 3 = .ok (.getfield 9, 3) := by decide +kernel
theorem d_S_slotsNotFalse_6 : decode b_S_slotsNotFalse 6 = .ok (.astore_n 2, 1) := by decide +kernel
theorem d_S_slotsNotFalse_7 : decode b_S_slotsNotFalse 7 = .ok (.aload_n 2, 1) := by decide +kernel
theorem d_S_slotsNotFalse_8 : decode b_S_slotsNotFalse 8 = .ok (.arraylength, 1) := by decide +kernel
theorem d_S_slotsNotFalse_9 : decode b_S_slotsNotFalse 9 = .ok (.istore_n 3, 1) := by decide +kernel
theorem d_S_slotsNotFalse_10 : decode b_S_slotsNotFalse 10 = .ok (.iconst 0, 1) := by decide +kernel
theorem d_S_slotsNotFalse_11 : decode b_S_slotsNotFalse 11 = .ok (.istore 4, 2) := by decide +kernel
theorem d_S_slotsNotFalse_13 : decode b_S_slotsNotFalse 13 = .ok (.iload 4, 2) := by decide +kernel
theorem d_S_slotsNotFalse_15 : decode b_S_slotsNotFalse 15 = .ok (.iload_n 3, 1) := by decide +kernel
theorem d_S_slotsNotFalse_16 : decode b_S_slotsNotFalse 16 = .ok (.if_icmp .ge 23, 3) := by decide +kernel
theorem d_S_slotsNotFalse_19 : decode b_S_slotsNotFalse 19 = .ok (.aload_n 2, 1) := by decide +kernel
theorem d_S_slotsNotFalse_20 : decode b_S_slotsNotFalse 20 = .ok (.iload 4, 2) := by decide +kernel
theorem d_S_slotsNotFalse_22 : decode b_S_slotsNotFalse 22 = .ok (.iaload, 1) := by decide +kernel
theorem d_S_slotsNotFalse_23 : decode b_S_slotsNotFalse 23 = .ok (.istore 5, 2) := by decide +kernel
theorem d_S_slotsNotFalse_25 : decode b_S_slotsNotFalse 25 = .ok (.iload 5, 2) := by decide +kernel
theorem d_S_slotsNotFalse_27 : decode b_S_slotsNotFalse 27 = .ok (.ifCond .eq 6, 3) := by decide +kernel
theorem d_S_slotsNotFalse_30 : decode b_S_slotsNotFalse 30 = .ok (.iinc 1 1, 3) := by decide +kernel
theorem d_S_slotsNotFalse_33 : decode b_S_slotsNotFalse 33 = .ok (.iinc 4 1, 3) := by decide +kernel
theorem d_S_slotsNotFalse_36 : decode b_S_slotsNotFalse 36 = .ok (.goto (-23), 3) := by decide +kernel
theorem d_S_slotsNotFalse_39 : decode b_S_slotsNotFalse 39 = .ok (.iload_n 1, 1) := by decide +kernel
theorem d_S_slotsNotFalse_40 : decode b_S_slotsNotFalse 40 = .ok (.ireturn, 1) := by decide +kernel
theorem d_R_init_0 : decode b_R_init 0 = .ok (.aload_n 0, 1) := by decide +kernel
theorem d_R_init_1 : decode b_R_init 1 = .ok (.invokespecial 1, 3) := by decide +kernel
theorem d_R_init_4 : decode b_R_init 4 = .ok (.aload_n 0, 1) := by decide +kernel
theorem d_R_init_5 : decode b_R_init 5 = .ok (.ldc 7, 2) := by decide +kernel
theorem d_R_init_7 : decode b_R_init 7 = .ok (.newarray .boolean, 2) := by decide +kernel
theorem d_R_init_9 : decode b_R_init 9 = .ok (.putfield 8, 3) := by decide +kernel
theorem d_R_init_12 : decode b_R_init 12 = .ok (.aload_n 0, 1) := by decide +kernel
theorem d_R_init_13 : decode b_R_init 13 = .ok (.sipush 4096, 3) := by decide +kernel
theorem d_R_init_16 : decode b_R_init 16 = .ok (.newarray .boolean, 2) := by decide +kernel
theorem d_R_init_18 : decode b_R_init 18 = .ok (.putfield 14, 3) := by decide +kernel
theorem d_R_init_21 : decode b_R_init 21 = .ok (.aload_n 0, 1) := by decide +kernel
theorem d_R_init_22 : decode b_R_init 22 = .ok (.sipush 4096, 3) := by decide +kernel
theorem d_R_init_25 : decode b_R_init 25 = .ok (.newarray .boolean, 2) := by decide +kernel
theorem d_R_init_27 : decode b_R_init 27 = .ok (.putfield 17, 3) := by decide +kernel
theorem d_R_init_30 : decode b_R_init 30 = .ok (.return_, 1) := by decide +kernel
theorem d_R_thrown_0 : decode b_R_thrown 0 = .ok (.aload_n 0, 1) := by decide +kernel
theorem d_R_thrown_1 : decode b_R_thrown 1 = .ok (.getfield 20, 3) := by decide +kernel
theorem d_R_thrown_4 : decode b_R_thrown 4 = .ok (.ireturn, 1) := by decide +kernel
theorem d_R_constant_0 : decode b_R_constant 0 = .ok (.aload_n 0, 1) := by decide +kernel
theorem d_R_constant_1 : decode b_R_constant 1 = .ok (.iconst 0, 1) := by decide +kernel
theorem d_R_constant_2 : decode b_R_constant 2 = .ok (.putfield 20, 3) := by decide +kernel
theorem d_R_constant_5 : decode b_R_constant 5 = .ok (.aload_n 0, 1) := by decide +kernel
theorem d_R_constant_6 : decode b_R_constant 6 = .ok (.iload_n 1, 1) := by decide +kernel
theorem d_R_constant_7 : decode b_R_constant 7 = .ok (.bipush 32, 2) := by decide +kernel
theorem d_R_constant_9 : decode b_R_constant 9 = .ok (.invokevirtual 24, 3) := by decide +kernel
theorem d_R_constant_12 : decode b_R_constant 12 = .ok (.ifCond .eq 11, 3) := by decide +kernel
theorem d_R_constant_15 : decode b_R_constant 15 = .ok (.aload_n 0, 1) := by decide +kernel
theorem d_R_constant_16 : decode b_R_constant 16 = .ok (.iconst 1, 1) := by decide +kernel
theorem d_R_constant_17 : decode b_R_constant 17 = .ok (.putfield 20, 3) := by decide +kernel
theorem d_R_constant_20 : decode b_R_constant 20 = .ok (.goto 31, 3) := by decide +kernel
theorem d_R_constant_23 : decode b_R_constant 23 = .ok (.iconst 0, 1) := by decide +kernel
theorem d_R_constant_24 : decode b_R_constant 24 = .ok (.istore_n 3, 1) := by decide +kernel
theorem d_R_constant_25 : decode b_R_constant 25 = .ok (.iload_n 3, 1) := by decide +kernel
theorem d_R_constant_26 : decode b_R_constant 26 = .ok (.sipush 4096, 3) := by decide +kernel
theorem d_R_constant_29 : decode b_R_constant 29 = .ok (.if_icmp .ge 22, 3) := by decide +kernel
theorem d_R_constant_32 : decode b_R_constant 32 = .ok (.aload_n 0, 1) := by decide +kernel
theorem d_R_constant_33 : decode b_R_constant 33 = .ok (.getfield 8, 3) := by decide +kernel
theorem d_R_constant_36 : decode b_R_constant 36 = .ok (.sipush 4096, 3) := by decide +kernel
theorem d_R_constant_39 : decode b_R_constant 39 = .ok (.iload_n 1, 1) := by decide +kernel
theorem d_R_constant_40 : decode b_R_constant 40 = .ok (.imul, 1) := by decide +kernel
theorem d_R_constant_41 : decode b_R_constant 41 = .ok (.iload_n 3, 1) := by decide +kernel
theorem d_R_constant_42 : decode b_R_constant 42 = .ok (.iadd, 1) := by decide +kernel
theorem d_R_constant_43 : decode b_R_constant 43 = .ok (.iload_n 2, 1) := by decide +kernel
theorem d_R_constant_44 : decode b_R_constant 44 = .ok (.bastore, 1) := by decide +kernel
theorem d_R_constant_45 : decode b_R_constant 45 = .ok (.iinc 3 1, 3) := by decide +kernel
theorem d_R_constant_48 : decode b_R_constant 48 = .ok (.goto (-23), 3) := by decide +kernel
theorem d_R_constant_51 : decode b_R_constant 51 = .ok (.return_, 1) := by decide +kernel
theorem d_R_out_0 : decode b_R_out 0 = .ok (.iload_n 1, 1) := by decide +kernel
theorem d_R_out_1 : decode b_R_out 1 = .ok (.ifCond .lt 8, 3) := by decide +kernel
theorem d_R_out_4 : decode b_R_out 4 = .ok (.iload_n 1, 1) := by decide +kernel
theorem d_R_out_5 : decode b_R_out 5 = .ok (.iload_n 2, 1) := by decide +kernel
theorem d_R_out_6 : decode b_R_out 6 = .ok (.if_icmp .lt 7, 3) := by decide +kernel
theorem d_R_out_9 : decode b_R_out 9 = .ok (.iconst 1, 1) := by decide +kernel
theorem d_R_out_10 : decode b_R_out 10 = .ok (.goto 4, 3) := by decide +kernel
theorem d_R_out_13 : decode b_R_out 13 = .ok (.iconst 0, 1) := by decide +kernel
theorem d_R_out_14 : decode b_R_out 14 = .ok (.ireturn, 1) := by decide +kernel
theorem d_R_variable_0 : decode b_R_variable 0 = .ok (.aload_n 0, 1) := by decide +kernel
theorem d_R_variable_1 : decode b_R_variable 1 = .ok (.iconst 0, 1) := by decide +kernel
theorem d_R_variable_2 : decode b_R_variable 2 = .ok (.putfield 20, 3) := by decide +kernel
theorem d_R_variable_5 : decode b_R_variable 5 = .ok (.aload_n 0, 1) := by decide +kernel
theorem d_R_variable_6 : decode b_R_variable 6 = .ok (.iload_n 1, 1) := by decide +kernel
theorem d_R_variable_7 : decode b_R_variable 7 = .ok (.bipush 32, 2) := by decide +kernel
theorem d_R_variable_9 : decode b_R_variable 9 = .ok (.invokevirtual 24, 3) := by decide +kernel
theorem d_R_variable_12 : decode b_R_variable 12 = .ok (.ifCond .ne 13, 3) := by decide +kernel
theorem d_R_variable_15 : decode b_R_variable 15 = .ok (.aload_n 0, 1) := by decide +kernel
theorem d_R_variable_16 : decode b_R_variable 16 = .ok (.iload_n 2, 1) := by decide +kernel
theorem d_R_variable_17 : decode b_R_variable 17 = .ok (.bipush 12, 2) := by decide +kernel
theorem d_R_variable_19 : decode b_R_variable 19 = .ok (.invokevirtual 24, 3) := by decide +kernel
theorem d_R_variable_22 : decode b_R_variable 22 = .ok (.ifCond .eq 11, 3) := by decide +kernel
theorem d_R_variable_25 : decode b_R_variable 25 = .ok (.aload_n 0, 1) := by decide +kernel
theorem d_R_variable_26 : decode b_R_variable 26 = .ok (.iconst 1, 1) := by decide +kernel
theorem d_R_variable_27 : decode b_R_variable 27 = .ok (.putfield 20, 3) := by decide +kernel
theorem d_R_variable_30 : decode b_R_variable 30 = .ok (.goto 44, 3) := by decide +kernel
theorem d_R_variable_33 : decode b_R_variable 33 = .ok (.iconst 0, 1) := by decide +kernel
theorem d_R_variable_34 : decode b_R_variable 34 = .ok (.istore_n 3, 1) := by decide +kernel
theorem d_R_variable_35 : decode b_R_variable 35 = .ok (.iload_n 3, 1) := by decide +kernel
theorem d_R_variable_36 : decode b_R_variable 36 = .ok (.sipush 4096, 3) := by decide +kernel
theorem d_R_variable_39 : decode b_R_variable 39 = .ok (.if_icmp .ge 35, 3) := by decide +kernel
theorem d_R_variable_42 : decode b_R_variable 42 = .ok (.aload_n 0, 1) := by decide +kernel
theorem d_R_variable_43 : decode b_R_variable 43 = .ok (.getfield 8, 3) := by decide +kernel
theorem d_R_variable_46 : decode b_R_variable 46 = .ok (.sipush 4096, 3) := by decide +kernel
theorem d_R_variable_49 : decode b_R_variable 49 = .ok (.iload_n 1, 1) := by decide +kernel
theorem d_R_variable_50 : decode b_R_variable 50 = .ok (.imul, 1) := by decide +kernel
theorem d_R_variable_51 : decode b_R_variable 51 = .ok (.iload_n 3, 1) := by decide +kernel
theorem d_R_variable_52 : decode b_R_variable 52 = .ok (.iadd, 1) := by decide +kernel
theorem d_R_variable_53 : decode b_R_variable 53 = .ok (.iload_n 3, 1) := by decide +kernel
theorem d_R_variable_54 : decode b_R_variable 54 = .ok (.iload_n 2, 1) := by decide +kernel
theorem d_R_variable_55 : decode b_R_variable 55 = .ok (.ishr, 1) := by decide +kernel
theorem d_R_variable_56 : decode b_R_variable 56 = .ok (.iconst 1, 1) := by decide +kernel
theorem d_R_variable_57 : decode b_R_variable 57 = .ok (.iand, 1) := by decide +kernel
theorem d_R_variable_58 : decode b_R_variable 58 = .ok (.iconst 1, 1) := by decide +kernel
theorem d_R_variable_59 : decode b_R_variable 59 = .ok (.if_icmp .ne 7, 3) := by decide +kernel
theorem d_R_variable_62 : decode b_R_variable 62 = .ok (.iconst 1, 1) := by decide +kernel
theorem d_R_variable_63 : decode b_R_variable 63 = .ok (.goto 4, 3) := by decide +kernel
theorem d_R_variable_66 : decode b_R_variable 66 = .ok (.iconst 0, 1) := by decide +kernel
theorem d_R_variable_67 : decode b_R_variable 67 = .ok (.bastore, 1) := by decide +kernel
theorem d_R_variable_68 : decode b_R_variable 68 = .ok (.iinc 3 1, 3) := by decide +kernel
theorem d_R_variable_71 : decode b_R_variable 71 = .ok (.goto (-36), 3) := by decide +kernel
theorem d_R_variable_74 : decode b_R_variable 74 = .ok (.return_, 1) := by decide +kernel
theorem d_R_choose_0 : decode b_R_choose 0 = .ok (.aload_n 0, 1) := by decide +kernel
theorem d_R_choose_1 : decode b_R_choose 1 = .ok (.iconst 0, 1) := by decide +kernel
theorem d_R_choose_2 : decode b_R_choose 2 = .ok (.putfield 20, 3) := by decide +kernel
theorem d_R_choose_5 : decode b_R_choose 5 = .ok (.aload_n 0, 1) := by decide +kernel
theorem d_R_choose_6 : decode b_R_choose 6 = .ok (.iload_n 1, 1) := by decide +kernel
theorem d_R_choose_7 : decode b_R_choose 7 = .ok (.bipush 32, 2) := by decide +kernel
theorem d_R_choose_9 : decode b_R_choose 9 = .ok (.invokevirtual 24, 3) := by decide +kernel
theorem d_R_choose_12 : decode b_R_choose 12 = .ok (.ifCond .ne 34, 3) := by decide +kernel
theorem d_R_choose_15 : decode b_R_choose 15 = .ok (.aload_n 0, 1) := by decide +kernel
theorem d_R_choose_16 : decode b_R_choose 16 = .ok (.iload_n 2, 1) := by decide +kernel
theorem d_R_choose_17 : decode b_R_choose 17 = .ok (.bipush 32, 2) := by decide +kernel
theorem d_R_choose_19 : decode b_R_choose 19 = .ok (.invokevirtual 24, 3) := by decide +kernel
theorem d_R_choose_22 : decode b_R_choose 22 = .ok (.ifCond .ne 24, 3) := by decide +kernel
theorem d_R_choose_25 : decode b_R_choose 25 = .ok (.aload_n 0, 1) := by decide +kernel
theorem d_R_choose_26 : decode b_R_choose 26 = .ok (.iload_n 3, 1) := by decide +kernel
theorem d_R_choose_27 : decode b_R_choose 27 = .ok (.bipush 32, 2) := by decide +kernel
theorem d_R_choose_29 : decode b_R_choose 29 = .ok (.invokevirtual 24, 3) := by decide +kernel
theorem d_R_choose_32 : decode b_R_choose 32 = .ok (.ifCond .ne 14, 3) := by decide +kernel
theorem d_R_choose_35 : decode b_R_choose 35 = .ok (.aload_n 0, 1) := by decide +kernel
theorem d_R_choose_36 : decode b_R_choose 36 = .ok (.iload 4, 2) := by decide +kernel
theorem d_R_choose_38 : decode b_R_choose 38 = .ok (.bipush 32, 2) := by decide +kernel
theorem d_R_choose_40 : decode b_R_choose 40 = .ok (.invokevirtual 24, 3) := by decide +kernel
theorem d_R_choose_43 : decode b_R_choose 43 = .ok (.ifCond .eq 9, 3) := by decide +kernel
theorem d_R_choose_46 : decode b_R_choose 46 = .ok (.aload_n 0, 1) := by decide +kernel
theorem d_R_choose_47 : decode b_R_choose 47 = .ok (.iconst 1, 1) := by decide +kernel
theorem d_R_choose_48 : decode b_R_choose 48 = .ok (.invokevirtual 28, 3) := by decide +kernel
theorem d_R_choose_51 : decode b_R_choose 51 = .ok (.ireturn, 1) := by decide +kernel
theorem d_R_choose_52 : decode b_R_choose 52 = .ok (.iconst 0, 1) := by decide +kernel
theorem d_R_choose_53 : decode b_R_choose 53 = .ok (.istore 5, 2) := by decide +kernel
theorem d_R_choose_55 : decode b_R_choose 55 = .ok (.iload 5, 2) := by decide +kernel
theorem d_R_choose_57 : decode b_R_choose 57 = .ok (.sipush 4096, 3) := by decide +kernel
theorem d_R_choose_60 : decode b_R_choose 60 = .ok (.if_icmp .ge 44, 3) := by decide +kernel
theorem d_R_choose_63 : decode b_R_choose 63 = .ok (.aload_n 0, 1) := by decide +kernel
theorem d_R_choose_64 : decode b_R_choose 64 = .ok (.getfield 14, 3) := by decide +kernel
theorem d_R_choose_67 : decode b_R_choose 67 = .ok (.iload 5, 2) := by decide +kernel
theorem d_R_choose_69 : decode b_R_choose 69 = .ok (.aload_n 0, 1) := by decide +kernel
theorem d_R_choose_70 : decode b_R_choose 70 = .ok (.iload_n 2, 1) := by decide +kernel
theorem d_R_choose_71 : decode b_R_choose 71 = .ok (.iload 5, 2) := by decide +kernel
theorem d_R_choose_73 : decode b_R_choose 73 = .ok (.invokevirtual 32, 3) := by decide +kernel
theorem d_R_choose_76 : decode b_R_choose 76 = .ok (.ifCond .eq 13, 3) := by decide +kernel
theorem d_R_choose_79 : decode b_R_choose 79 = .ok (.aload_n 0, 1) := by decide +kernel
theorem d_R_choose_80 : decode b_R_choose 80 = .ok (.iload_n 3, 1) := by decide +kernel
theorem d_R_choose_81 : decode b_R_choose 81 = .ok (.iload 5, 2) := by decide +kernel
theorem d_R_choose_83 : decode b_R_choose 83 = .ok (.invokevirtual 32, 3) := by decide +kernel
theorem d_R_choose_86 : decode b_R_choose 86 = .ok (.goto 11, 3) := by decide +kernel
theorem d_R_choose_89 : decode b_R_choose 89 = .ok (.aload_n 0, 1) := by decide +kernel
theorem d_R_choose_90 : decode b_R_choose 90 = .ok (.iload 4, 2) := by decide +kernel
theorem d_R_choose_92 : decode b_R_choose 92 = .ok (.iload 5, 2) := by decide +kernel
theorem d_R_choose_94 : decode b_R_choose 94 = .ok (.invokevirtual 32, 3) := by decide +kernel
theorem d_R_choose_97 : decode b_R_choose 97 = .ok (.bastore, 1) := by decide +kernel
theorem d_R_choose_98 : decode b_R_choose 98 = .ok (.iinc 5 1, 3) := by decide +kernel
theorem d_R_choose_101 : decode b_R_choose 101 = .ok (.goto (-46), 3) := by decide +kernel
theorem d_R_choose_104 : decode b_R_choose 104 = .ok (.aload_n 0, 1) := by decide +kernel
theorem d_R_choose_105 : decode b_R_choose 105 = .ok (.iload_n 1, 1) := by decide +kernel
theorem d_R_choose_106 : decode b_R_choose 106 = .ok (.invokevirtual 35, 3) := by decide +kernel
theorem d_R_choose_109 : decode b_R_choose 109 = .ok (.ireturn, 1) := by decide +kernel
theorem d_R_fail_0 : decode b_R_fail 0 = .ok (.aload_n 0, 1) := by decide +kernel
theorem d_R_fail_1 : decode b_R_fail 1 = .ok (.iload_n 1, 1) := by decide +kernel
theorem d_R_fail_2 : decode b_R_fail 2 = .ok (.putfield 20, 3) := by decide +kernel
theorem d_R_fail_5 : decode b_R_fail 5 = .ok (.iconst 0, 1) := by decide +kernel
theorem d_R_fail_6 : decode b_R_fail 6 = .ok (.ireturn, 1) := by decide +kernel
theorem d_R_at_0 : decode b_R_at 0 = .ok (.aload_n 0, 1) := by decide +kernel
theorem d_R_at_1 : decode b_R_at 1 = .ok (.getfield 8, 3) := by decide +kernel
theorem d_R_at_4 : decode b_R_at 4 = .ok (.sipush 4096, 3) := by decide +kernel
theorem d_R_at_7 : decode b_R_at 7 = .ok (.iload_n 1, 1) := by decide +kernel
theorem d_R_at_8 : decode b_R_at 8 = .ok (.imul, 1) := by decide +kernel
theorem d_R_at_9 : decode b_R_at 9 = .ok (.iload_n 2, 1) := by decide +kernel
theorem d_R_at_10 : decode b_R_at 10 = .ok (.iadd, 1) := by decide +kernel
theorem d_R_at_11 : decode b_R_at 11 = .ok (.baload, 1) := by decide +kernel
theorem d_R_at_12 : decode b_R_at 12 = .ok (.ireturn, 1) := by decide +kernel
theorem d_R_keep_0 : decode b_R_keep 0 = .ok (.iconst 0, 1) := by decide +kernel
theorem d_R_keep_1 : decode b_R_keep 1 = .ok (.istore_n 2, 1) := by decide +kernel
theorem d_R_keep_2 : decode b_R_keep 2 = .ok (.iconst 0, 1) := by decide +kernel
theorem d_R_keep_3 : decode b_R_keep 3 = .ok (.istore_n 3, 1) := by decide +kernel
theorem d_R_keep_4 : decode b_R_keep 4 = .ok (.iload_n 3, 1) := by decide +kernel
theorem d_R_keep_5 : decode b_R_keep 5 = .ok (.sipush 4096, 3) := by decide +kernel
theorem d_R_keep_8 : decode b_R_keep 8 = .ok (.if_icmp .ge 50, 3) := by decide +kernel
theorem d_R_keep_11 : decode b_R_keep 11 = .ok (.aload_n 0, 1) := by decide +kernel
theorem d_R_keep_12 : decode b_R_keep 12 = .ok (.getfield 8, 3) := by decide +kernel
theorem d_R_keep_15 : decode b_R_keep 15 = .ok (.sipush 4096, 3) := by decide +kernel
theorem d_R_keep_18 : decode b_R_keep 18 = .ok (.iload_n 1, 1) := by decide +kernel
theorem d_R_keep_19 : decode b_R_keep 19 = .ok (.imul, 1) := by decide +kernel
theorem d_R_keep_20 : decode b_R_keep 20 = .ok (.iload_n 3, 1) := by decide +kernel
theorem d_R_keep_21 : decode b_R_keep 21 = .ok (.iadd, 1) := by decide +kernel
theorem d_R_keep_22 : decode b_R_keep 22 = .ok (.baload, 1) := by decide +kernel
theorem d_R_keep_23 : decode b_R_keep 23 = .ok (.aload_n 0, 1) := by decide +kernel
theorem d_R_keep_24 : decode b_R_keep 24 = .ok (.getfield 14, 3) := by decide +kernel
theorem d_R_keep_27 : decode b_R_keep 27 = .ok (.iload_n 3, 1) := by decide +kernel
theorem d_R_keep_28 : decode b_R_keep 28 = .ok (.baload, 1) := by decide +kernel
theorem d_R_keep_29 : decode b_R_keep 29 = .ok (.if_icmp .eq 5, 3) := by decide +kernel
theorem d_R_keep_32 : decode b_R_keep 32 = .ok (.iconst 1, 1) := by decide +kernel
theorem d_R_keep_33 : decode b_R_keep 33 = .ok (.istore_n 2, 1) := by decide +kernel
theorem d_R_keep_34 : decode b_R_keep 34 = .ok (.aload_n 0, 1) := by decide +kernel
theorem d_R_keep_35 : decode b_R_keep 35 = .ok (.getfield 8, 3) := by decide +kernel
theorem d_R_keep_38 : decode b_R_keep 38 = .ok (.sipush 4096, 3) := by decide +kernel
theorem d_R_keep_41 : decode b_R_keep 41 = .ok (.iload_n 1, 1) := by decide +kernel
theorem d_R_keep_42 : decode b_R_keep 42 = .ok (.imul, 1) := by decide +kernel
theorem d_R_keep_43 : decode b_R_keep 43 = .ok (.iload_n 3, 1) := by decide +kernel
theorem d_R_keep_44 : decode b_R_keep 44 = .ok (.iadd, 1) := by decide +kernel
theorem d_R_keep_45 : decode b_R_keep 45 = .ok (.aload_n 0, 1) := by decide +kernel
theorem d_R_keep_46 : decode b_R_keep 46 = .ok (.getfield 14, 3) := by decide +kernel
theorem d_R_keep_49 : decode b_R_keep 49 = .ok (.iload_n 3, 1) := by decide +kernel
theorem d_R_keep_50 : decode b_R_keep 50 = .ok (.baload, 1) := by decide +kernel
theorem d_R_keep_51 : decode b_R_keep 51 = .ok (.bastore, 1) := by decide +kernel
theorem d_R_keep_52 : decode b_R_keep 52 = .ok (.iinc 3 1, 3) := by decide +kernel
theorem d_R_keep_55 : decode b_R_keep 55 = .ok (.goto (-51), 3) := by decide +kernel
theorem d_R_keep_58 : decode b_R_keep 58 = .ok (.iload_n 2, 1) := by decide +kernel
theorem d_R_keep_59 : decode b_R_keep 59 = .ok (.ireturn, 1) := by decide +kernel
theorem d_R_join_0 : decode b_R_join 0 = .ok (.aload_n 0, 1) := by decide +kernel
theorem d_R_join_1 : decode b_R_join 1 = .ok (.iconst 0, 1) := by decide +kernel
theorem d_R_join_2 : decode b_R_join 2 = .ok (.putfield 20, 3) := by decide +kernel
theorem d_R_join_5 : decode b_R_join 5 = .ok (.aload_n 0, 1) := by decide +kernel
theorem d_R_join_6 : decode b_R_join 6 = .ok (.iload_n 1, 1) := by decide +kernel
theorem d_R_join_7 : decode b_R_join 7 = .ok (.bipush 32, 2) := by decide +kernel
theorem d_R_join_9 : decode b_R_join 9 = .ok (.invokevirtual 24, 3) := by decide +kernel
theorem d_R_join_12 : decode b_R_join 12 = .ok (.ifCond .ne 33, 3) := by decide +kernel
theorem d_R_join_15 : decode b_R_join 15 = .ok (.aload_n 0, 1) := by decide +kernel
theorem d_R_join_16 : decode b_R_join 16 = .ok (.iload_n 2, 1) := by decide +kernel
theorem d_R_join_17 : decode b_R_join 17 = .ok (.iconst 5, 1) := by decide +kernel
theorem d_R_join_18 : decode b_R_join 18 = .ok (.invokevirtual 24, 3) := by decide +kernel
theorem d_R_join_21 : decode b_R_join 21 = .ok (.ifCond .ne 24, 3) := by decide +kernel
theorem d_R_join_24 : decode b_R_join 24 = .ok (.aload_n 0, 1) := by decide +kernel
theorem d_R_join_25 : decode b_R_join 25 = .ok (.iload_n 3, 1) := by decide +kernel
theorem d_R_join_26 : decode b_R_join 26 = .ok (.bipush 32, 2) := by decide +kernel
theorem d_R_join_28 : decode b_R_join 28 = .ok (.invokevirtual 24, 3) := by decide +kernel
theorem d_R_join_31 : decode b_R_join 31 = .ok (.ifCond .ne 14, 3) := by decide +kernel
theorem d_R_join_34 : decode b_R_join 34 = .ok (.aload_n 0, 1) := by decide +kernel
theorem d_R_join_35 : decode b_R_join 35 = .ok (.iload 4, 2) := by decide +kernel
theorem d_R_join_37 : decode b_R_join 37 = .ok (.bipush 32, 2) := by decide +kernel
theorem d_R_join_39 : decode b_R_join 39 = .ok (.invokevirtual 24, 3) := by decide +kernel
theorem d_R_join_42 : decode b_R_join 42 = .ok (.ifCond .eq 9, 3) := by decide +kernel
theorem d_R_join_45 : decode b_R_join 45 = .ok (.aload_n 0, 1) := by decide +kernel
theorem d_R_join_46 : decode b_R_join 46 = .ok (.iconst 1, 1) := by decide +kernel
theorem d_R_join_47 : decode b_R_join 47 = .ok (.invokevirtual 28, 3) := by decide +kernel
theorem d_R_join_50 : decode b_R_join 50 = .ok (.ireturn, 1) := by decide +kernel
theorem d_R_join_51 : decode b_R_join 51 = .ok (.iconst 0, 1) := by decide +kernel
theorem d_R_join_52 : decode b_R_join 52 = .ok (.istore 5, 2) := by decide +kernel
theorem d_R_join_54 : decode b_R_join 54 = .ok (.iload 5, 2) := by decide +kernel
theorem d_R_join_56 : decode b_R_join 56 = .ok (.sipush 4096, 3) := by decide +kernel
theorem d_R_join_59 : decode b_R_join 59 = .ok (.if_icmp .ge 133, 3) := by decide +kernel
theorem d_R_join_62 : decode b_R_join 62 = .ok (.aload_n 0, 1) := by decide +kernel
theorem d_R_join_63 : decode b_R_join 63 = .ok (.iload_n 3, 1) := by decide +kernel
theorem d_R_join_64 : decode b_R_join 64 = .ok (.iload 5, 2) := by decide +kernel
theorem d_R_join_66 : decode b_R_join 66 = .ok (.invokevirtual 32, 3) := by decide +kernel
theorem d_R_join_69 : decode b_R_join 69 = .ok (.istore 6, 2) := by decide +kernel
theorem d_R_join_71 : decode b_R_join 71 = .ok (.aload_n 0, 1) := by decide +kernel
theorem d_R_join_72 : decode b_R_join 72 = .ok (.iload 4, 2) := by decide +kernel
theorem d_R_join_74 : decode b_R_join 74 = .ok (.iload 5, 2) := by decide +kernel
theorem d_R_join_76 : decode b_R_join 76 = .ok (.invokevirtual 32, 3) := by decide +kernel
theorem d_R_join_79 : decode b_R_join 79 = .ok (.istore 7, 2) := by decide +kernel
theorem d_R_join_81 : decode b_R_join 81 = .ok (.aload_n 0, 1) := by decide +kernel
theorem d_R_join_82 : decode b_R_join 82 = .ok (.getfield 14, 3) := by decide +kernel
theorem d_R_join_85 : decode b_R_join 85 = .ok (.iload 5, 2) := by decide +kernel
theorem d_R_join_87 : decode b_R_join 87 = .ok (.iload_n 2, 1) := by decide +kernel
theorem d_R_join_88 : decode b_R_join 88 = .ok (.ifCond .ne 21, 3) := by decide +kernel
theorem d_R_join_91 : decode b_R_join 91 = .ok (.iload 6, 2) := by decide +kernel
theorem d_R_join_93 : decode b_R_join 93 = .ok (.ifCond .eq 12, 3) := by decide +kernel
theorem d_R_join_96 : decode b_R_join 96 = .ok (.iload 7, 2) := by decide +kernel
theorem d_R_join_98 : decode b_R_join 98 = .ok (.ifCond .eq 7, 3) := by decide +kernel
theorem d_R_join_101 : decode b_R_join 101 = .ok (.iconst 1, 1) := by decide +kernel
theorem d_R_join_102 : decode b_R_join 102 = .ok (.goto 83, 3) := by decide +kernel
theorem d_R_join_105 : decode b_R_join 105 = .ok (.iconst 0, 1) := by decide +kernel
theorem d_R_join_106 : decode b_R_join 106 = .ok (.goto 79, 3) := by decide +kernel
theorem d_R_join_109 : decode b_R_join 109 = .ok (.iload_n 2, 1) := by decide +kernel
theorem d_R_join_110 : decode b_R_join 110 = .ok (.iconst 1, 1) := by decide +kernel
theorem d_R_join_111 : decode b_R_join 111 = .ok (.if_icmp .ne 21, 3) := by decide +kernel
theorem d_R_join_114 : decode b_R_join 114 = .ok (.iload 6, 2) := by decide +kernel
theorem d_R_join_116 : decode b_R_join 116 = .ok (.ifCond .ne 8, 3) := by decide +kernel
theorem d_R_join_119 : decode b_R_join 119 = .ok (.iload 7, 2) := by decide +kernel
theorem d_R_join_121 : decode b_R_join 121 = .ok (.ifCond .eq 7, 3) := by decide +kernel
theorem d_R_join_124 : decode b_R_join 124 = .ok (.iconst 1, 1) := by decide +kernel
theorem d_R_join_125 : decode b_R_join 125 = .ok (.goto 60, 3) := by decide +kernel
theorem d_R_join_128 : decode b_R_join 128 = .ok (.iconst 0, 1) := by decide +kernel
theorem d_R_join_129 : decode b_R_join 129 = .ok (.goto 56, 3) := by decide +kernel
theorem d_R_join_132 : decode b_R_join 132 = .ok (.iload_n 2, 1) := by decide +kernel
theorem d_R_join_133 : decode b_R_join 133 = .ok (.iconst 2, 1) := by decide +kernel
theorem d_R_join_134 : decode b_R_join 134 = .ok (.if_icmp .ne 18, 3) := by decide +kernel
theorem d_R_join_137 : decode b_R_join 137 = .ok (.iload 6, 2) := by decide +kernel
theorem d_R_join_139 : decode b_R_join 139 = .ok (.iload 7, 2) := by decide +kernel
theorem d_R_join_141 : decode b_R_join 141 = .ok (.if_icmp .eq 7, 3) := by decide +kernel
theorem d_R_join_144 : decode b_R_join 144 = .ok (.iconst 1, 1) := by decide +kernel
theorem d_R_join_145 : decode b_R_join 145 = .ok (.goto 40, 3) := by decide +kernel
theorem d_R_join_148 : decode b_R_join 148 = .ok (.iconst 0, 1) := by decide +kernel
theorem d_R_join_149 : decode b_R_join 149 = .ok (.goto 36, 3) := by decide +kernel
theorem d_R_join_152 : decode b_R_join 152 = .ok (.iload_n 2, 1) := by decide +kernel
theorem d_R_join_153 : decode b_R_join 153 = .ok (.iconst 3, 1) := by decide +kernel
theorem d_R_join_154 : decode b_R_join 154 = .ok (.if_icmp .ne 21, 3) := by decide +kernel
theorem d_R_join_157 : decode b_R_join 157 = .ok (.iload 6, 2) := by decide +kernel
theorem d_R_join_159 : decode b_R_join 159 = .ok (.ifCond .eq 12, 3) := by decide +kernel
theorem d_R_join_162 : decode b_R_join 162 = .ok (.iload 7, 2) := by decide +kernel
theorem d_R_join_164 : decode b_R_join 164 = .ok (.ifCond .ne 7, 3) := by decide +kernel
theorem d_R_join_167 : decode b_R_join 167 = .ok (.iconst 1, 1) := by decide +kernel
theorem d_R_join_168 : decode b_R_join 168 = .ok (.goto 17, 3) := by decide +kernel
theorem d_R_join_171 : decode b_R_join 171 = .ok (.iconst 0, 1) := by decide +kernel
theorem d_R_join_172 : decode b_R_join 172 = .ok (.goto 13, 3) := by decide +kernel
theorem d_R_join_175 : decode b_R_join 175 = .ok (.iload 6, 2) := by decide +kernel
theorem d_R_join_177 : decode b_R_join 177 = .ok (.ifCond .ne 7, 3) := by decide +kernel
theorem d_R_join_180 : decode b_R_join 180 = .ok (.iconst 1, 1) := by decide +kernel
theorem d_R_join_181 : decode b_R_join 181 = .ok (.goto 4, 3) := by decide +kernel
theorem d_R_join_184 : decode b_R_join 184 = .ok (.iconst 0, 1) := by decide +kernel
theorem d_R_join_185 : decode b_R_join 185 = .ok (.bastore, 1) := by decide +kernel
theorem d_R_join_186 : decode b_R_join 186 = .ok (.iinc 5 1, 3) := by decide +kernel
theorem d_R_join_189 : decode b_R_join 189 = .ok (.goto (-135), 3) := by decide +kernel
theorem d_R_join_192 : decode b_R_join 192 = .ok (.aload_n 0, 1) := by decide +kernel
theorem d_R_join_193 : decode b_R_join 193 = .ok (.iload_n 1, 1) := by decide +kernel
theorem d_R_join_194 : decode b_R_join 194 = .ok (.invokevirtual 35, 3) := by decide +kernel
theorem d_R_join_197 : decode b_R_join 197 = .ok (.ireturn, 1) := by decide +kernel
theorem d_R_some_0 : decode b_R_some 0 = .ok (.aload_n 0, 1) := by decide +kernel
theorem d_R_some_1 : decode b_R_some 1 = .ok (.iconst 0, 1) := by decide +kernel
theorem d_R_some_2 : decode b_R_some 2 = .ok (.putfield 20, 3) := by decide +kernel
theorem d_R_some_5 : decode b_R_some 5 = .ok (.aload_n 0, 1) := by decide +kernel
theorem d_R_some_6 : decode b_R_some 6 = .ok (.iload_n 1, 1) := by decide +kernel
theorem d_R_some_7 : decode b_R_some 7 = .ok (.bipush 32, 2) := by decide +kernel
theorem d_R_some_9 : decode b_R_some 9 = .ok (.invokevirtual 24, 3) := by decide +kernel
theorem d_R_some_12 : decode b_R_some 12 = .ok (.ifCond .ne 35, 3) := by decide +kernel
theorem d_R_some_15 : decode b_R_some 15 = .ok (.aload_n 0, 1) := by decide +kernel
theorem d_R_some_16 : decode b_R_some 16 = .ok (.iload_n 2, 1) := by decide +kernel
theorem d_R_some_17 : decode b_R_some 17 = .ok (.bipush 32, 2) := by decide +kernel
theorem d_R_some_19 : decode b_R_some 19 = .ok (.invokevirtual 24, 3) := by decide +kernel
theorem d_R_some_22 : decode b_R_some 22 = .ok (.ifCond .ne 25, 3) := by decide +kernel
theorem d_R_some_25 : decode b_R_some 25 = .ok (.aload_n 0, 1) := by decide +kernel
theorem d_R_some_26 : decode b_R_some 26 = .ok (.iload_n 3, 1) := by decide +kernel
theorem d_R_some_27 : decode b_R_some 27 = .ok (.bipush 32, 2) := by decide +kernel
theorem d_R_some_29 : decode b_R_some 29 = .ok (.invokevirtual 24, 3) := by decide +kernel
theorem d_R_some_32 : decode b_R_some 32 = .ok (.ifCond .ne 15, 3) := by decide +kernel
theorem d_R_some_35 : decode b_R_some 35 = .ok (.aload_n 0, 1) := by decide +kernel
theorem d_R_some_36 : decode b_R_some 36 = .ok (.iload 4, 2) := by decide +kernel
theorem d_R_some_38 : decode b_R_some 38 = .ok (.sipush 4096, 3) := by decide +kernel
theorem d_R_some_41 : decode b_R_some 41 = .ok (.invokevirtual 24, 3) := by decide +kernel
theorem d_R_some_44 : decode b_R_some 44 = .ok (.ifCond .eq 9, 3) := by decide +kernel
theorem d_R_some_47 : decode b_R_some 47 = .ok (.aload_n 0, 1) := by decide +kernel
theorem d_R_some_48 : decode b_R_some 48 = .ok (.iconst 1, 1) := by decide +kernel
theorem d_R_some_49 : decode b_R_some 49 = .ok (.invokevirtual 28, 3) := by decide +kernel
theorem d_R_some_52 : decode b_R_some 52 = .ok (.ireturn, 1) := by decide +kernel
theorem d_R_some_53 : decode b_R_some 53 = .ok (.iconst 0, 1) := by decide +kernel
theorem d_R_some_54 : decode b_R_some 54 = .ok (.istore 5, 2) := by decide +kernel
theorem d_R_some_56 : decode b_R_some 56 = .ok (.iload 5, 2) := by decide +kernel
theorem d_R_some_58 : decode b_R_some 58 = .ok (.sipush 4096, 3) := by decide +kernel
theorem d_R_some_61 : decode b_R_some 61 = .ok (.if_icmp .ge 41, 3) := by decide +kernel
theorem d_R_some_64 : decode b_R_some 64 = .ok (.aload_n 0, 1) := by decide +kernel
theorem d_R_some_65 : decode b_R_some 65 = .ok (.getfield 17, 3) := by decide +kernel
theorem d_R_some_68 : decode b_R_some 68 = .ok (.iload 5, 2) := by decide +kernel
theorem d_R_some_70 : decode b_R_some 70 = .ok (.aload_n 0, 1) := by decide +kernel
theorem d_R_some_71 : decode b_R_some 71 = .ok (.iload_n 2, 1) := by decide +kernel
theorem d_R_some_72 : decode b_R_some 72 = .ok (.iload 5, 2) := by decide +kernel
theorem d_R_some_74 : decode b_R_some 74 = .ok (.invokevirtual 32, 3) := by decide +kernel
theorem d_R_some_77 : decode b_R_some 77 = .ok (.ifCond .eq 17, 3) := by decide +kernel
theorem d_R_some_80 : decode b_R_some 80 = .ok (.aload_n 0, 1) := by decide +kernel
theorem d_R_some_81 : decode b_R_some 81 = .ok (.iload_n 3, 1) := by decide +kernel
theorem d_R_some_82 : decode b_R_some 82 = .ok (.iload 5, 2) := by decide +kernel
theorem d_R_some_84 : decode b_R_some 84 = .ok (.invokevirtual 32, 3) := by decide +kernel
theorem d_R_some_87 : decode b_R_some 87 = .ok (.ifCond .eq 7, 3) := by decide +kernel
theorem d_R_some_90 : decode b_R_some 90 = .ok (.iconst 1, 1) := by decide +kernel
theorem d_R_some_91 : decode b_R_some 91 = .ok (.goto 4, 3) := by decide +kernel
theorem d_R_some_94 : decode b_R_some 94 = .ok (.iconst 0, 1) := by decide +kernel
theorem d_R_some_95 : decode b_R_some 95 = .ok (.bastore, 1) := by decide +kernel
theorem d_R_some_96 : decode b_R_some 96 = .ok (.iinc 5 1, 3) := by decide +kernel
theorem d_R_some_99 : decode b_R_some 99 = .ok (.goto (-43), 3) := by decide +kernel
theorem d_R_some_102 : decode b_R_some 102 = .ok (.iconst 0, 1) := by decide +kernel
theorem d_R_some_103 : decode b_R_some 103 = .ok (.istore 5, 2) := by decide +kernel
theorem d_R_some_105 : decode b_R_some 105 = .ok (.iload 5, 2) := by decide +kernel
theorem d_R_some_107 : decode b_R_some 107 = .ok (.sipush 4096, 3) := by decide +kernel
theorem d_R_some_110 : decode b_R_some 110 = .ok (.if_icmp .ge 17, 3) := by decide +kernel
theorem d_R_some_113 : decode b_R_some 113 = .ok (.aload_n 0, 1) := by decide +kernel
theorem d_R_some_114 : decode b_R_some 114 = .ok (.getfield 14, 3) := by decide +kernel
theorem d_R_some_117 : decode b_R_some 117 = .ok (.iload 5, 2) := by decide +kernel
theorem d_R_some_119 : decode b_R_some 119 = .ok (.iconst 0, 1) := by decide +kernel
theorem d_R_some_120 : decode b_R_some 120 = .ok (.bastore, 1) := by decide +kernel
theorem d_R_some_121 : decode b_R_some 121 = .ok (.iinc 5 1, 3) := by decide +kernel
theorem d_R_some_124 : decode b_R_some 124 = .ok (.goto (-19), 3) := by decide +kernel
theorem d_R_some_127 : decode b_R_some 127 = .ok (.iconst 0, 1) := by decide +kernel
theorem d_R_some_128 : decode b_R_some 128 = .ok (.istore 5, 2) := by decide +kernel
theorem d_R_some_130 : decode b_R_some 130 = .ok (.iload 5, 2) := by decide +kernel
theorem d_R_some_132 : decode b_R_some 132 = .ok (.sipush 4096, 3) := by decide +kernel
theorem d_R_some_135 : decode b_R_some 135 = .ok (.if_icmp .ge 32, 3) := by decide +kernel
theorem d_R_some_138 : decode b_R_some 138 = .ok (.aload_n 0, 1) := by decide +kernel
theorem d_R_some_139 : decode b_R_some 139 = .ok (.getfield 17, 3) := by decide +kernel
theorem d_R_some_142 : decode b_R_some 142 = .ok (.iload 5, 2) := by decide +kernel
theorem d_R_some_144 : decode b_R_some 144 = .ok (.baload, 1) := by decide +kernel
theorem d_R_some_145 : decode b_R_some 145 = .ok (.ifCond .eq 16, 3) := by decide +kernel
theorem d_R_some_148 : decode b_R_some 148 = .ok (.aload_n 0, 1) := by decide +kernel
theorem d_R_some_149 : decode b_R_some 149 = .ok (.getfield 14, 3) := by decide +kernel
theorem d_R_some_152 : decode b_R_some 152 = .ok (.iload 5, 2) := by decide +kernel
theorem d_R_some_154 : decode b_R_some 154 = .ok (.iload 4, 2) := by decide +kernel
theorem d_R_some_156 : decode b_R_some 156 = .ok (.iconst (-1), 1) := by decide +kernel
theorem d_R_some_157 : decode b_R_some 157 = .ok (.ixor, 1) := by decide +kernel
theorem d_R_some_158 : decode b_R_some 158 = .ok (.iand, 1) := by decide +kernel
theorem d_R_some_159 : decode b_R_some 159 = .ok (.iconst 1, 1) := by decide +kernel
theorem d_R_some_160 : decode b_R_some 160 = .ok (.bastore, 1) := by decide +kernel
theorem d_R_some_161 : decode b_R_some 161 = .ok (.iinc 5 1, 3) := by decide +kernel
theorem d_R_some_164 : decode b_R_some 164 = .ok (.goto (-34), 3) := by decide +kernel
theorem d_R_some_167 : decode b_R_some 167 = .ok (.iconst 0, 1) := by decide +kernel
theorem d_R_some_168 : decode b_R_some 168 = .ok (.istore 5, 2) := by decide +kernel
theorem d_R_some_170 : decode b_R_some 170 = .ok (.iload 5, 2) := by decide +kernel
theorem d_R_some_172 : decode b_R_some 172 = .ok (.sipush 4096, 3) := by decide +kernel
theorem d_R_some_175 : decode b_R_some 175 = .ok (.if_icmp .ge 28, 3) := by decide +kernel
theorem d_R_some_178 : decode b_R_some 178 = .ok (.aload_n 0, 1) := by decide +kernel
theorem d_R_some_179 : decode b_R_some 179 = .ok (.getfield 14, 3) := by decide +kernel
theorem d_R_some_182 : decode b_R_some 182 = .ok (.iload 5, 2) := by decide +kernel
theorem d_R_some_184 : decode b_R_some 184 = .ok (.aload_n 0, 1) := by decide +kernel
theorem d_R_some_185 : decode b_R_some 185 = .ok (.getfield 14, 3) := by decide +kernel
theorem d_R_some_188 : decode b_R_some 188 = .ok (.iload 5, 2) := by decide +kernel
theorem d_R_some_190 : decode b_R_some 190 = .ok (.iload 4, 2) := by decide +kernel
theorem d_R_some_192 : decode b_R_some 192 = .ok (.iconst (-1), 1) := by decide +kernel
theorem d_R_some_193 : decode b_R_some 193 = .ok (.ixor, 1) := by decide +kernel
theorem d_R_some_194 : decode b_R_some 194 = .ok (.iand, 1) := by decide +kernel
theorem d_R_some_195 : decode b_R_some 195 = .ok (.baload, 1) := by decide +kernel
theorem d_R_some_196 : decode b_R_some 196 = .ok (.bastore, 1) := by decide +kernel
theorem d_R_some_197 : decode b_R_some 197 = .ok (.iinc 5 1, 3) := by decide +kernel
theorem d_R_some_200 : decode b_R_some 200 = .ok (.goto (-30), 3) := by decide +kernel
theorem d_R_some_203 : decode b_R_some 203 = .ok (.aload_n 0, 1) := by decide +kernel
theorem d_R_some_204 : decode b_R_some 204 = .ok (.iload_n 1, 1) := by decide +kernel
theorem d_R_some_205 : decode b_R_some 205 = .ok (.invokevirtual 35, 3) := by decide +kernel
theorem d_R_some_208 : decode b_R_some 208 = .ok (.ireturn, 1) := by decide +kernel
theorem d_R_turn_0 : decode b_R_turn 0 = .ok (.aload_n 0, 1) := by decide +kernel
theorem d_R_turn_1 : decode b_R_turn 1 = .ok (.iconst 0, 1) := by decide +kernel
theorem d_R_turn_2 : decode b_R_turn 2 = .ok (.putfield 20, 3) := by decide +kernel
theorem d_R_turn_5 : decode b_R_turn 5 = .ok (.aload_n 0, 1) := by decide +kernel
theorem d_R_turn_6 : decode b_R_turn 6 = .ok (.iload_n 1, 1) := by decide +kernel
theorem d_R_turn_7 : decode b_R_turn 7 = .ok (.bipush 32, 2) := by decide +kernel
theorem d_R_turn_9 : decode b_R_turn 9 = .ok (.invokevirtual 24, 3) := by decide +kernel
theorem d_R_turn_12 : decode b_R_turn 12 = .ok (.ifCond .ne 13, 3) := by decide +kernel
theorem d_R_turn_15 : decode b_R_turn 15 = .ok (.aload_n 0, 1) := by decide +kernel
theorem d_R_turn_16 : decode b_R_turn 16 = .ok (.iload_n 2, 1) := by decide +kernel
theorem d_R_turn_17 : decode b_R_turn 17 = .ok (.bipush 32, 2) := by decide +kernel
theorem d_R_turn_19 : decode b_R_turn 19 = .ok (.invokevirtual 24, 3) := by decide +kernel
theorem d_R_turn_22 : decode b_R_turn 22 = .ok (.ifCond .eq 9, 3) := by decide +kernel
theorem d_R_turn_25 : decode b_R_turn 25 = .ok (.aload_n 0, 1) := by decide +kernel
theorem d_R_turn_26 : decode b_R_turn 26 = .ok (.iconst 1, 1) := by decide +kernel
theorem d_R_turn_27 : decode b_R_turn 27 = .ok (.invokevirtual 28, 3) := by decide +kernel
theorem d_R_turn_30 : decode b_R_turn 30 = .ok (.ireturn, 1) := by decide +kernel
theorem d_R_turn_31 : decode b_R_turn 31 = .ok (.iconst 0, 1) := by decide +kernel
theorem d_R_turn_32 : decode b_R_turn 32 = .ok (.istore_n 3, 1) := by decide +kernel
theorem d_R_turn_33 : decode b_R_turn 33 = .ok (.iload_n 3, 1) := by decide +kernel
theorem d_R_turn_34 : decode b_R_turn 34 = .ok (.sipush 4096, 3) := by decide +kernel
theorem d_R_turn_37 : decode b_R_turn 37 = .ok (.if_icmp .ge 35, 3) := by decide +kernel
theorem d_R_turn_40 : decode b_R_turn 40 = .ok (.aload_n 0, 1) := by decide +kernel
theorem d_R_turn_41 : decode b_R_turn 41 = .ok (.getfield 14, 3) := by decide +kernel
theorem d_R_turn_44 : decode b_R_turn 44 = .ok (.iload_n 3, 1) := by decide +kernel
theorem d_R_turn_45 : decode b_R_turn 45 = .ok (.aload_n 0, 1) := by decide +kernel
theorem d_R_turn_46 : decode b_R_turn 46 = .ok (.iload_n 2, 1) := by decide +kernel
theorem d_R_turn_47 : decode b_R_turn 47 = .ok (.iload_n 3, 1) := by decide +kernel
theorem d_R_turn_48 : decode b_R_turn 48 = .ok (.sipush 1365, 3) := by decide +kernel
theorem d_R_turn_51 : decode b_R_turn 51 = .ok (.iand, 1) := by decide +kernel
theorem d_R_turn_52 : decode b_R_turn 52 = .ok (.iconst 2, 1) := by decide +kernel
theorem d_R_turn_53 : decode b_R_turn 53 = .ok (.imul, 1) := by decide +kernel
theorem d_R_turn_54 : decode b_R_turn 54 = .ok (.iload_n 3, 1) := by decide +kernel
theorem d_R_turn_55 : decode b_R_turn 55 = .ok (.iconst 1, 1) := by decide +kernel
theorem d_R_turn_56 : decode b_R_turn 56 = .ok (.ishr, 1) := by decide +kernel
theorem d_R_turn_57 : decode b_R_turn 57 = .ok (.sipush 1365, 3) := by decide +kernel
theorem d_R_turn_60 : decode b_R_turn 60 = .ok (.iand, 1) := by decide +kernel
theorem d_R_turn_61 : decode b_R_turn 61 = .ok (.iadd, 1) := by decide +kernel
theorem d_R_turn_62 : decode b_R_turn 62 = .ok (.invokevirtual 32, 3) := by decide +kernel
theorem d_R_turn_65 : decode b_R_turn 65 = .ok (.bastore, 1) := by decide +kernel
theorem d_R_turn_66 : decode b_R_turn 66 = .ok (.iinc 3 1, 3) := by decide +kernel
theorem d_R_turn_69 : decode b_R_turn 69 = .ok (.goto (-36), 3) := by decide +kernel
theorem d_R_turn_72 : decode b_R_turn 72 = .ok (.aload_n 0, 1) := by decide +kernel
theorem d_R_turn_73 : decode b_R_turn 73 = .ok (.iload_n 1, 1) := by decide +kernel
theorem d_R_turn_74 : decode b_R_turn 74 = .ok (.invokevirtual 35, 3) := by decide +kernel
theorem d_R_turn_77 : decode b_R_turn 77 = .ok (.ireturn, 1) := by decide +kernel
theorem d_R_value_0 : decode b_R_value 0 = .ok (.aload_n 0, 1) := by decide +kernel
theorem d_R_value_1 : decode b_R_value 1 = .ok (.iconst 0, 1) := by decide +kernel
theorem d_R_value_2 : decode b_R_value 2 = .ok (.putfield 20, 3) := by decide +kernel
theorem d_R_value_5 : decode b_R_value 5 = .ok (.aload_n 0, 1) := by decide +kernel
theorem d_R_value_6 : decode b_R_value 6 = .ok (.iload_n 1, 1) := by decide +kernel
theorem d_R_value_7 : decode b_R_value 7 = .ok (.bipush 32, 2) := by decide +kernel
theorem d_R_value_9 : decode b_R_value 9 = .ok (.invokevirtual 24, 3) := by decide +kernel
theorem d_R_value_12 : decode b_R_value 12 = .ok (.ifCond .ne 14, 3) := by decide +kernel
theorem d_R_value_15 : decode b_R_value 15 = .ok (.aload_n 0, 1) := by decide +kernel
theorem d_R_value_16 : decode b_R_value 16 = .ok (.iload_n 2, 1) := by decide +kernel
theorem d_R_value_17 : decode b_R_value 17 = .ok (.sipush 4096, 3) := by decide +kernel
theorem d_R_value_20 : decode b_R_value 20 = .ok (.invokevirtual 24, 3) := by decide +kernel
theorem d_R_value_23 : decode b_R_value 23 = .ok (.ifCond .eq 9, 3) := by decide +kernel
theorem d_R_value_26 : decode b_R_value 26 = .ok (.aload_n 0, 1) := by decide +kernel
theorem d_R_value_27 : decode b_R_value 27 = .ok (.iconst 1, 1) := by decide +kernel
theorem d_R_value_28 : decode b_R_value 28 = .ok (.invokevirtual 28, 3) := by decide +kernel
theorem d_R_value_31 : decode b_R_value 31 = .ok (.ireturn, 1) := by decide +kernel
theorem d_R_value_32 : decode b_R_value 32 = .ok (.aload_n 0, 1) := by decide +kernel
theorem d_R_value_33 : decode b_R_value 33 = .ok (.iload_n 1, 1) := by decide +kernel
theorem d_R_value_34 : decode b_R_value 34 = .ok (.iload_n 2, 1) := by decide +kernel
theorem d_R_value_35 : decode b_R_value 35 = .ok (.invokevirtual 32, 3) := by decide +kernel
theorem d_R_value_38 : decode b_R_value 38 = .ok (.ireturn, 1) := by decide +kernel
theorem d_R_same_0 : decode b_R_same 0 = .ok (.aload_n 0, 1) := by decide +kernel
theorem d_R_same_1 : decode b_R_same 1 = .ok (.iconst 0, 1) := by decide +kernel
theorem d_R_same_2 : decode b_R_same 2 = .ok (.putfield 20, 3) := by decide +kernel
theorem d_R_same_5 : decode b_R_same 5 = .ok (.aload_n 0, 1) := by decide +kernel
theorem d_R_same_6 : decode b_R_same 6 = .ok (.iload_n 1, 1) := by decide +kernel
theorem d_R_same_7 : decode b_R_same 7 = .ok (.bipush 32, 2) := by decide +kernel
theorem d_R_same_9 : decode b_R_same 9 = .ok (.invokevirtual 24, 3) := by decide +kernel
theorem d_R_same_12 : decode b_R_same 12 = .ok (.ifCond .ne 13, 3) := by decide +kernel
theorem d_R_same_15 : decode b_R_same 15 = .ok (.aload_n 0, 1) := by decide +kernel
theorem d_R_same_16 : decode b_R_same 16 = .ok (.iload_n 2, 1) := by decide +kernel
theorem d_R_same_17 : decode b_R_same 17 = .ok (.bipush 32, 2) := by decide +kernel
theorem d_R_same_19 : decode b_R_same 19 = .ok (.invokevirtual 24, 3) := by decide +kernel
theorem d_R_same_22 : decode b_R_same 22 = .ok (.ifCond .eq 9, 3) := by decide +kernel
theorem d_R_same_25 : decode b_R_same 25 = .ok (.aload_n 0, 1) := by decide +kernel
theorem d_R_same_26 : decode b_R_same 26 = .ok (.iconst 1, 1) := by decide +kernel
theorem d_R_same_27 : decode b_R_same 27 = .ok (.invokevirtual 28, 3) := by decide +kernel
theorem d_R_same_30 : decode b_R_same 30 = .ok (.ireturn, 1) := by decide +kernel
theorem d_R_same_31 : decode b_R_same 31 = .ok (.iconst 0, 1) := by decide +kernel
theorem d_R_same_32 : decode b_R_same 32 = .ok (.istore_n 3, 1) := by decide +kernel
theorem d_R_same_33 : decode b_R_same 33 = .ok (.iload_n 3, 1) := by decide +kernel
theorem d_R_same_34 : decode b_R_same 34 = .ok (.sipush 4096, 3) := by decide +kernel
theorem d_R_same_37 : decode b_R_same 37 = .ok (.if_icmp .ge 26, 3) := by decide +kernel
theorem d_R_same_40 : decode b_R_same 40 = .ok (.aload_n 0, 1) := by decide +kernel
theorem d_R_same_41 : decode b_R_same 41 = .ok (.iload_n 1, 1) := by decide +kernel
theorem d_R_same_42 : decode b_R_same 42 = .ok (.iload_n 3, 1) := by decide +kernel
theorem d_R_same_43 : decode b_R_same 43 = .ok (.invokevirtual 32, 3) := by decide +kernel
theorem d_R_same_46 : decode b_R_same 46 = .ok (.aload_n 0, 1) := by decide +kernel
theorem d_R_same_47 : decode b_R_same 47 = .ok (.iload_n 2, 1) := by decide +kernel
theorem d_R_same_48 : decode b_R_same 48 = .ok (.iload_n 3, 1) := by decide +kernel
theorem d_R_same_49 : decode b_R_same 49 = .ok (.invokevirtual 32, 3) := by decide +kernel
theorem d_R_same_52 : decode b_R_same 52 = .ok (.if_icmp .eq 5, 3) := by decide +kernel
theorem d_R_same_55 : decode b_R_same 55 = .ok (.iconst 0, 1) := by decide +kernel
theorem d_R_same_56 : decode b_R_same 56 = .ok (.ireturn, 1) := by decide +kernel
theorem d_R_same_57 : decode b_R_same 57 = .ok (.iinc 3 1, 3) := by decide +kernel
theorem d_R_same_60 : decode b_R_same 60 = .ok (.goto (-27), 3) := by decide +kernel
theorem d_R_same_63 : decode b_R_same 63 = .ok (.iconst 1, 1) := by decide +kernel
theorem d_R_same_64 : decode b_R_same 64 = .ok (.ireturn, 1) := by decide +kernel
theorem d_R_count_0 : decode b_R_count 0 = .ok (.aload_n 0, 1) := by decide +kernel
theorem d_R_count_1 : decode b_R_count 1 = .ok (.iconst 0, 1) := by decide +kernel
theorem d_R_count_2 : decode b_R_count 2 = .ok (.putfield 20, 3) := by decide +kernel
theorem d_R_count_5 : decode b_R_count 5 = .ok (.aload_n 0, 1) := by decide +kernel
theorem d_R_count_6 : decode b_R_count 6 = .ok (.iload_n 1, 1) := by decide +kernel
theorem d_R_count_7 : decode b_R_count 7 = .ok (.bipush 32, 2) := by decide +kernel
theorem d_R_count_9 : decode b_R_count 9 = .ok (.invokevirtual 24, 3) := by decide +kernel
theorem d_R_count_12 : decode b_R_count 12 = .ok (.ifCond .eq 10, 3) := by decide +kernel
theorem d_R_count_15 : decode b_R_count 15 = .ok (.aload_n 0, 1) := by decide +kernel
theorem d_R_count_16 : decode b_R_count 16 = .ok (.iconst 1, 1) := by decide +kernel
theorem d_R_count_17 : decode b_R_count 17 = .ok (.putfield 20, 3) := by decide +kernel
theorem d_R_count_20 : decode b_R_count 20 = .ok (.iconst 0, 1) := by decide +kernel
theorem d_R_count_21 : decode b_R_count 21 = .ok (.ireturn, 1) := by decide +kernel
theorem d_R_count_22 : decode b_R_count 22 = .ok (.aload_n 0, 1) := by decide +kernel
theorem d_R_count_23 : decode b_R_count 23 = .ok (.iload_n 1, 1) := by decide +kernel
theorem d_R_count_24 : decode b_R_count 24 = .ok (.invokevirtual 38, 3) := by decide +kernel
theorem d_R_count_27 : decode b_R_count 27 = .ok (.sipush 2730, 3) := by decide +kernel
theorem d_R_count_30 : decode b_R_count 30 = .ok (.iand, 1) := by decide +kernel
theorem d_R_count_31 : decode b_R_count 31 = .ok (.ifCond .eq 10, 3) := by decide +kernel
theorem d_R_count_34 : decode b_R_count 34 = .ok (.aload_n 0, 1) := by decide +kernel
theorem d_R_count_35 : decode b_R_count 35 = .ok (.iconst 2, 1) := by decide +kernel
theorem d_R_count_36 : decode b_R_count 36 = .ok (.putfield 20, 3) := by decide +kernel
theorem d_R_count_39 : decode b_R_count 39 = .ok (.iconst 0, 1) := by decide +kernel
theorem d_R_count_40 : decode b_R_count 40 = .ok (.ireturn, 1) := by decide +kernel
theorem d_R_count_41 : decode b_R_count 41 = .ok (.iconst 0, 1) := by decide +kernel
theorem d_R_count_42 : decode b_R_count 42 = .ok (.istore_n 2, 1) := by decide +kernel
theorem d_R_count_43 : decode b_R_count 43 = .ok (.iconst 0, 1) := by decide +kernel
theorem d_R_count_44 : decode b_R_count 44 = .ok (.istore_n 3, 1) := by decide +kernel
theorem d_R_count_45 : decode b_R_count 45 = .ok (.iload_n 3, 1) := by decide +kernel
theorem d_R_count_46 : decode b_R_count 46 = .ok (.sipush 4096, 3) := by decide +kernel
theorem d_R_count_49 : decode b_R_count 49 = .ok (.if_icmp .ge 26, 3) := by decide +kernel
theorem d_R_count_52 : decode b_R_count 52 = .ok (.iload_n 2, 1) := by decide +kernel
theorem d_R_count_53 : decode b_R_count 53 = .ok (.aload_n 0, 1) := by decide +kernel
theorem d_R_count_54 : decode b_R_count 54 = .ok (.iload_n 1, 1) := by decide +kernel
theorem d_R_count_55 : decode b_R_count 55 = .ok (.iload_n 3, 1) := by decide +kernel
theorem d_R_count_56 : decode b_R_count 56 = .ok (.invokevirtual 32, 3) := by decide +kernel
theorem d_R_count_59 : decode b_R_count 59 = .ok (.ifCond .eq 7, 3) := by decide +kernel
theorem d_R_count_62 : decode b_R_count 62 = .ok (.iconst 1, 1) := by decide +kernel
theorem d_R_count_63 : decode b_R_count 63 = .ok (.goto 4, 3) := by decide +kernel
theorem d_R_count_66 : decode b_R_count 66 = .ok (.iconst 0, 1) := by decide +kernel
theorem d_R_count_67 : decode b_R_count 67 = .ok (.iadd, 1) := by decide +kernel
theorem d_R_count_68 : decode b_R_count 68 = .ok (.istore_n 2, 1) := by decide +kernel
theorem d_R_count_69 : decode b_R_count 69 = .ok (.iinc 3 1, 3) := by decide +kernel
theorem d_R_count_72 : decode b_R_count 72 = .ok (.goto (-27), 3) := by decide +kernel
theorem d_R_count_75 : decode b_R_count 75 = .ok (.iload_n 2, 1) := by decide +kernel
theorem d_R_count_76 : decode b_R_count 76 = .ok (.bipush 64, 2) := by decide +kernel
theorem d_R_count_78 : decode b_R_count 78 = .ok (.idiv, 1) := by decide +kernel
theorem d_R_count_79 : decode b_R_count 79 = .ok (.ireturn, 1) := by decide +kernel
theorem d_R_hangs_0 : decode b_R_hangs 0 = .ok (.iconst 0, 1) := by decide +kernel
theorem d_R_hangs_1 : decode b_R_hangs 1 = .ok (.istore_n 2, 1) := by decide +kernel
theorem d_R_hangs_2 : decode b_R_hangs 2 = .ok (.iconst 0, 1) := by decide +kernel
theorem d_R_hangs_3 : decode b_R_hangs 3 = .ok (.istore_n 3, 1) := by decide +kernel
theorem d_R_hangs_4 : decode b_R_hangs 4 = .ok (.iload_n 3, 1) := by decide +kernel
theorem d_R_hangs_5 : decode b_R_hangs 5 = .ok (.bipush 12, 2) := by decide +kernel
theorem d_R_hangs_7 : decode b_R_hangs 7 = .ok (.if_icmp .ge 53, 3) := by decide +kernel
theorem d_R_hangs_10 : decode b_R_hangs 10 = .ok (.iconst 0, 1) := by decide +kernel
theorem d_R_hangs_11 : decode b_R_hangs 11 = .ok (.istore 4, 2) := by decide +kernel
theorem d_R_hangs_13 : decode b_R_hangs 13 = .ok (.iload 4, 2) := by decide +kernel
theorem d_R_hangs_15 : decode b_R_hangs 15 = .ok (.sipush 4096, 3) := by decide +kernel
theorem d_R_hangs_18 : decode b_R_hangs 18 = .ok (.if_icmp .ge 36, 3) := by decide +kernel
theorem d_R_hangs_21 : decode b_R_hangs 21 = .ok (.aload_n 0, 1) := by decide +kernel
theorem d_R_hangs_22 : decode b_R_hangs 22 = .ok (.iload_n 1, 1) := by decide +kernel
theorem d_R_hangs_23 : decode b_R_hangs 23 = .ok (.iload 4, 2) := by decide +kernel
theorem d_R_hangs_25 : decode b_R_hangs 25 = .ok (.invokevirtual 32, 3) := by decide +kernel
theorem d_R_hangs_28 : decode b_R_hangs 28 = .ok (.aload_n 0, 1) := by decide +kernel
theorem d_R_hangs_29 : decode b_R_hangs 29 = .ok (.iload_n 1, 1) := by decide +kernel
theorem d_R_hangs_30 : decode b_R_hangs 30 = .ok (.iload 4, 2) := by decide +kernel
theorem d_R_hangs_32 : decode b_R_hangs 32 = .ok (.iconst 1, 1) := by decide +kernel
theorem d_R_hangs_33 : decode b_R_hangs 33 = .ok (.iload_n 3, 1) := by decide +kernel
theorem d_R_hangs_34 : decode b_R_hangs 34 = .ok (.ishl, 1) := by decide +kernel
theorem d_R_hangs_35 : decode b_R_hangs 35 = .ok (.ixor, 1) := by decide +kernel
theorem d_R_hangs_36 : decode b_R_hangs 36 = .ok (.invokevirtual 32, 3) := by decide +kernel
theorem d_R_hangs_39 : decode b_R_hangs 39 = .ok (.if_icmp .eq 9, 3) := by decide +kernel
theorem d_R_hangs_42 : decode b_R_hangs 42 = .ok (.iload_n 2, 1) := by decide +kernel
theorem d_R_hangs_43 : decode b_R_hangs 43 = .ok (.iconst 1, 1) := by decide +kernel
theorem d_R_hangs_44 : decode b_R_hangs 44 = .ok (.iload_n 3, 1) := by decide +kernel
theorem d_R_hangs_45 : decode b_R_hangs 45 = .ok (.ishl, 1) := by decide +kernel
theorem d_R_hangs_46 : decode b_R_hangs 46 = .ok (.ior, 1) := by decide +kernel
theorem d_R_hangs_47 : decode b_R_hangs 47 = .ok (.istore_n 2, 1) := by decide +kernel
theorem d_R_hangs_48 : decode b_R_hangs 48 = .ok (.iinc 4 1, 3) := by decide +kernel
theorem d_R_hangs_51 : decode b_R_hangs 51 = .ok (.goto (-38), 3) := by decide +kernel
theorem d_R_hangs_54 : decode b_R_hangs 54 = .ok (.iinc 3 1, 3) := by decide +kernel
theorem d_R_hangs_57 : decode b_R_hangs 57 = .ok (.goto (-53), 3) := by decide +kernel
theorem d_R_hangs_60 : decode b_R_hangs 60 = .ok (.iload_n 2, 1) := by decide +kernel
theorem d_R_hangs_61 : decode b_R_hangs 61 = .ok (.ireturn, 1) := by decide +kernel
theorem d_R_support_0 : decode b_R_support 0 = .ok (.aload_n 0, 1) := by decide +kernel
theorem d_R_support_1 : decode b_R_support 1 = .ok (.iconst 0, 1) := by decide +kernel
theorem d_R_support_2 : decode b_R_support 2 = .ok (.putfield 20, 3) := by decide +kernel
theorem d_R_support_5 : decode b_R_support 5 = .ok (.aload_n 0, 1) := by decide +kernel
theorem d_R_support_6 : decode b_R_support 6 = .ok (.iload_n 1, 1) := by decide +kernel
theorem d_R_support_7 : decode b_R_support 7 = .ok (.bipush 32, 2) := by decide +kernel
theorem d_R_support_9 : decode b_R_support 9 = .ok (.invokevirtual 24, 3) := by decide +kernel
theorem d_R_support_12 : decode b_R_support 12 = .ok (.ifCond .ne 9, 3) := by decide +kernel
theorem d_R_support_15 : decode b_R_support 15 = .ok (.aload_n 0, 1) := by decide +kernel
theorem d_R_support_16 : decode b_R_support 16 = .ok (.iload_n 1, 1) := by decide +kernel
theorem d_R_support_17 : decode b_R_support 17 = .ok (.invokevirtual 38, 3) := by decide +kernel
theorem d_R_support_20 : decode b_R_support 20 = .ok (.ireturn, 1) := by decide +kernel
theorem d_R_support_21 : decode b_R_support 21 = .ok (.aload_n 0, 1) := by decide +kernel
theorem d_R_support_22 : decode b_R_support 22 = .ok (.iconst 1, 1) := by decide +kernel
theorem d_R_support_23 : decode b_R_support 23 = .ok (.putfield 20, 3) := by decide +kernel
theorem d_R_support_26 : decode b_R_support 26 = .ok (.iconst 0, 1) := by decide +kernel
theorem d_R_support_27 : decode b_R_support 27 = .ok (.ireturn, 1) := by decide +kernel
theorem d_R_tidy_0 : decode b_R_tidy 0 = .ok (.aload_n 0, 1) := by decide +kernel
theorem d_R_tidy_1 : decode b_R_tidy 1 = .ok (.iconst 0, 1) := by decide +kernel
theorem d_R_tidy_2 : decode b_R_tidy 2 = .ok (.putfield 20, 3) := by decide +kernel
theorem d_R_tidy_5 : decode b_R_tidy 5 = .ok (.aload_n 0, 1) := by decide +kernel
theorem d_R_tidy_6 : decode b_R_tidy 6 = .ok (.iload_n 1, 1) := by decide +kernel
theorem d_R_tidy_7 : decode b_R_tidy 7 = .ok (.iconst 3, 1) := by decide +kernel
theorem d_R_tidy_8 : decode b_R_tidy 8 = .ok (.invokevirtual 24, 3) := by decide +kernel
theorem d_R_tidy_11 : decode b_R_tidy 11 = .ok (.ifCond .eq 10, 3) := by decide +kernel
theorem d_R_tidy_14 : decode b_R_tidy 14 = .ok (.aload_n 0, 1) := by decide +kernel
theorem d_R_tidy_15 : decode b_R_tidy 15 = .ok (.iconst 1, 1) := by decide +kernel
theorem d_R_tidy_16 : decode b_R_tidy 16 = .ok (.putfield 20, 3) := by decide +kernel
theorem d_R_tidy_19 : decode b_R_tidy 19 = .ok (.iconst 0, 1) := by decide +kernel
theorem d_R_tidy_20 : decode b_R_tidy 20 = .ok (.ireturn, 1) := by decide +kernel
theorem d_R_tidy_21 : decode b_R_tidy 21 = .ok (.iconst 0, 1) := by decide +kernel
theorem d_R_tidy_22 : decode b_R_tidy 22 = .ok (.istore_n 2, 1) := by decide +kernel
theorem d_R_tidy_23 : decode b_R_tidy 23 = .ok (.iconst 0, 1) := by decide +kernel
theorem d_R_tidy_24 : decode b_R_tidy 24 = .ok (.istore_n 3, 1) := by decide +kernel
theorem d_R_tidy_25 : decode b_R_tidy 25 = .ok (.iload_n 3, 1) := by decide +kernel
theorem d_R_tidy_26 : decode b_R_tidy 26 = .ok (.bipush 32, 2) := by decide +kernel
theorem d_R_tidy_28 : decode b_R_tidy 28 = .ok (.if_icmp .ge 56, 3) := by decide +kernel
theorem d_R_tidy_31 : decode b_R_tidy 31 = .ok (.iconst 0, 1) := by decide +kernel
theorem d_R_tidy_32 : decode b_R_tidy 32 = .ok (.istore 4, 2) := by decide +kernel
theorem d_R_tidy_34 : decode b_R_tidy 34 = .ok (.iconst 0, 1) := by decide +kernel
theorem d_R_tidy_35 : decode b_R_tidy 35 = .ok (.istore 5, 2) := by decide +kernel
theorem d_R_tidy_37 : decode b_R_tidy 37 = .ok (.iload 5, 2) := by decide +kernel
theorem d_R_tidy_39 : decode b_R_tidy 39 = .ok (.sipush 4096, 3) := by decide +kernel
theorem d_R_tidy_42 : decode b_R_tidy 42 = .ok (.if_icmp .ge 23, 3) := by decide +kernel
theorem d_R_tidy_45 : decode b_R_tidy 45 = .ok (.iload 4, 2) := by decide +kernel
theorem d_R_tidy_47 : decode b_R_tidy 47 = .ok (.ifCond .ne 18, 3) := by decide +kernel
theorem d_R_tidy_50 : decode b_R_tidy 50 = .ok (.aload_n 0, 1) := by decide +kernel
theorem d_R_tidy_51 : decode b_R_tidy 51 = .ok (.iload_n 3, 1) := by decide +kernel
theorem d_R_tidy_52 : decode b_R_tidy 52 = .ok (.iload 5, 2) := by decide +kernel
theorem d_R_tidy_54 : decode b_R_tidy 54 = .ok (.invokevirtual 32, 3) := by decide +kernel
theorem d_R_tidy_57 : decode b_R_tidy 57 = .ok (.istore 4, 2) := by decide +kernel
theorem d_R_tidy_59 : decode b_R_tidy 59 = .ok (.iinc 5 1, 3) := by decide +kernel
theorem d_R_tidy_62 : decode b_R_tidy 62 = .ok (.goto (-25), 3) := by decide +kernel
theorem d_R_tidy_65 : decode b_R_tidy 65 = .ok (.iload_n 2, 1) := by decide +kernel
theorem d_R_tidy_66 : decode b_R_tidy 66 = .ok (.iload 4, 2) := by decide +kernel
theorem d_R_tidy_68 : decode b_R_tidy 68 = .ok (.ifCond .eq 7, 3) := by decide +kernel
theorem d_R_tidy_71 : decode b_R_tidy 71 = .ok (.iconst 1, 1) := by decide +kernel
theorem d_R_tidy_72 : decode b_R_tidy 72 = .ok (.goto 4, 3) := by decide +kernel
theorem d_R_tidy_75 : decode b_R_tidy 75 = .ok (.iconst 0, 1) := by decide +kernel
theorem d_R_tidy_76 : decode b_R_tidy 76 = .ok (.iadd, 1) := by decide +kernel
theorem d_R_tidy_77 : decode b_R_tidy 77 = .ok (.istore_n 2, 1) := by decide +kernel
theorem d_R_tidy_78 : decode b_R_tidy 78 = .ok (.iinc 3 1, 3) := by decide +kernel
theorem d_R_tidy_81 : decode b_R_tidy 81 = .ok (.goto (-56), 3) := by decide +kernel
theorem d_R_tidy_84 : decode b_R_tidy 84 = .ok (.iload_n 2, 1) := by decide +kernel
theorem d_R_tidy_85 : decode b_R_tidy 85 = .ok (.ireturn, 1) := by decide +kernel
theorem d_R_wrong_0 : decode b_R_wrong 0 = .ok (.aload_n 0, 1) := by decide +kernel
theorem d_R_wrong_1 : decode b_R_wrong 1 = .ok (.iconst 0, 1) := by decide +kernel
theorem d_R_wrong_2 : decode b_R_wrong 2 = .ok (.putfield 20, 3) := by decide +kernel
theorem d_R_wrong_5 : decode b_R_wrong 5 = .ok (.iconst 0, 1) := by decide +kernel
theorem d_R_wrong_6 : decode b_R_wrong 6 = .ok (.ireturn, 1) := by decide +kernel
end
section
/-! PURE, 1: counting below n, lists through a table of successors, updates. Nothing of the machine. -/
def fu {α : Type} (f : Nat → α) (k : Nat) (v : α) : Nat → α := fun j => if j = k then v else f j
theorem fu_s {α : Type} (f : Nat → α) (k : Nat) (v : α) : fu f k v k = v := if_pos rfl
theorem fu_n {α : Type} {f : Nat → α} {k : Nat} {v : α} {j : Nat} (h : j ≠ k) : fu f k v j = f j := if_neg h
def pc_cnt (P : Nat → Bool) : Nat → Nat
  | 0 => 0
  | n + 1 => pc_cnt P n + (P n).toNat
theorem pc_congr {P Q : Nat → Bool} : ∀ {n : Nat}, (∀ j, j < n → P j = Q j) → pc_cnt P n = pc_cnt Q n
  | 0, _ => rfl
  | n + 1, h => by
    show pc_cnt P n + (P n).toNat = pc_cnt Q n + (Q n).toNat
    rw [pc_congr (fun j hj => h j (by omega)), h n (by omega)]
theorem pc_le {P Q : Nat → Bool} : ∀ {n : Nat}, (∀ j, j < n → P j = true → Q j = true) → pc_cnt P n ≤ pc_cnt Q n
  | 0, _ => Nat.le_refl _
  | n + 1, h => by
    have h1 := pc_le (P := P) (Q := Q) (n := n) (fun j hj => h j (by omega))
    have h2 := h n (by omega)
    show pc_cnt P n + (P n).toNat ≤ pc_cnt Q n + (Q n).toNat
    cases hp : P n
    · simp only [Bool.toNat_false]; omega
    · rw [h2 hp]; simp only [Bool.toNat_true]; omega
/-- one place k changes: the count moves by what stands there -/
theorem pc_one {P Q : Nat → Bool} {k : Nat} : ∀ {n : Nat}, k < n → (∀ j, j ≠ k → Q j = P j) → pc_cnt Q n + (P k).toNat = pc_cnt P n + (Q k).toNat
  | 0, h, _ => by omega
  | n + 1, h, hq => by
    show pc_cnt Q n + (Q n).toNat + (P k).toNat = pc_cnt P n + (P n).toNat + (Q k).toNat
    rcases Nat.lt_or_ge k n with hk | hk
    · have h1 := pc_one (P := P) (Q := Q) (n := n) hk hq
      rw [hq n (by omega)]; omega
    · have e : k = n := by omega
      subst e
      rw [pc_congr (P := Q) (Q := P) (n := k) (fun j hj => hq j (by omega))]
      omega
theorem pc_up {P Q : Nat → Bool} {k n : Nat} (h : k < n) (hq : ∀ j, j ≠ k → Q j = P j) (h0 : P k = false) (h1 : Q k = true) : pc_cnt Q n = pc_cnt P n + 1 := by
  have := pc_one h hq
  rw [h0, h1] at this
  simpa using this
theorem pc_down {P Q : Nat → Bool} {k n : Nat} (h : k < n) (hq : ∀ j, j ≠ k → Q j = P j) (h0 : P k = true) (h1 : Q k = false) : pc_cnt P n = pc_cnt Q n + 1 := by
  have := pc_one h hq
  rw [h0, h1] at this
  simpa using this.symm
theorem pc_split (P Q : Nat → Bool) : ∀ (n : Nat), pc_cnt P n = pc_cnt (fun j => P j && Q j) n + pc_cnt (fun j => P j && !Q j) n
  | 0 => rfl
  | n + 1 => by
    have h := pc_split P Q n
    show pc_cnt P n + (P n).toNat = (pc_cnt (fun j => P j && Q j) n + (P n && Q n).toNat) + (pc_cnt (fun j => P j && !Q j) n + (P n && !Q n).toNat)
    cases hp : P n <;> cases hq : Q n <;> simp <;> omega
theorem pc_or (P Q : Nat → Bool) : ∀ (n : Nat), pc_cnt (fun j => P j || Q j) n ≤ pc_cnt P n + pc_cnt Q n
  | 0 => Nat.le_refl _
  | n + 1 => by
    have h := pc_or P Q n
    show pc_cnt (fun j => P j || Q j) n + (P n || Q n).toNat ≤ (pc_cnt P n + (P n).toNat) + (pc_cnt Q n + (Q n).toNat)
    cases hp : P n <;> cases hq : Q n <;> simp <;> omega
theorem pc_pos {P : Nat → Bool} {k : Nat} : ∀ {n : Nat}, k < n → P k = true → 0 < pc_cnt P n
  | 0, h, _ => by omega
  | n + 1, h, hk => by
    show 0 < pc_cnt P n + (P n).toNat
    rcases Nat.lt_or_ge k n with q | q
    · have := pc_pos (P := P) q hk; omega
    · have e : k = n := by omega
      subst e; rw [hk]; simp
theorem pc_wit {P : Nat → Bool} : ∀ {n : Nat}, 0 < pc_cnt P n → ∃ k, k < n ∧ P k = true
  | 0, h => absurd h (Nat.lt_irrefl 0)
  | n + 1, h => by
    cases hp : P n
    · have h' : 0 < pc_cnt P n := by
        have : 0 < pc_cnt P n + (P n).toNat := h
        rw [hp] at this; simpa using this
      obtain ⟨k, h1, h2⟩ := pc_wit h'
      exact ⟨k, by omega, h2⟩
    · exact ⟨n, by omega, hp⟩
theorem pc_none {P : Nat → Bool} {n : Nat} (h : ∀ j, j < n → P j = false) : pc_cnt P n = 0 := by
  rcases Nat.eq_zero_or_pos (pc_cnt P n) with q | q
  · exact q
  · obtain ⟨k, h1, h2⟩ := pc_wit q
    rw [h k h1] at h2; cases h2
theorem pc_len (P : Nat → Bool) : ∀ (n : Nat), ((List.range n).filter P).length = pc_cnt P n
  | 0 => rfl
  | n + 1 => by
    rw [List.range_succ, List.filter_append, List.length_append, pc_len P n]
    show _ = pc_cnt P n + (P n).toNat
    cases hp : P n <;> simp [hp]
theorem pc_lt (P : Nat → Bool) (n : Nat) : pc_cnt P n ≤ n := by
  rw [← pc_len]
  exact Nat.le_trans (List.length_filter_le _ _) (by simp)
/-- what a list without doubles holds, if all of it is counted -/
theorem pc_list {P : Nat → Bool} {n : Nat} {l : List Nat} (hd : l.Nodup) (h : ∀ x ∈ l, x < n ∧ P x = true) : l.length ≤ pc_cnt P n := by
  rw [← pc_len]
  refine List.Nodup.length_le_of_subset hd (fun x hx => ?_)
  obtain ⟨h1, h2⟩ := h x hx
  exact List.mem_filter.mpr ⟨List.mem_range.mpr h1, h2⟩
/-- pigeons: an injective map of the counted into numbers below m -/
theorem pc_pigeon {P : Nat → Bool} {n m : Nat} (f : Nat → Nat) (hm : ∀ j, j < n → P j = true → f j < m) (hi : ∀ i j, i < n → j < n → P i = true → P j = true → f i = f j → i = j) : pc_cnt P n ≤ m := by
  rw [← pc_len]
  have hnd : (((List.range n).filter P).map f).Nodup := by
    have h0 : ((List.range n).filter P).Nodup := List.Nodup.sublist List.filter_sublist List.nodup_range
    have hin : ∀ x ∈ (List.range n).filter P, x < n ∧ P x = true := fun x hx => ⟨List.mem_range.mp (List.mem_filter.mp hx).1, (List.mem_filter.mp hx).2⟩
    generalize (List.range n).filter P = l at h0 hin
    induction l with
    | nil => simp
    | cons x l ih =>
      rw [List.map_cons, List.nodup_cons]
      rw [List.nodup_cons] at h0
      refine ⟨fun hx => ?_, ih h0.2 (fun y hy => hin y (List.mem_cons_of_mem _ hy))⟩
      obtain ⟨y, hy, e⟩ := List.mem_map.mp hx
      obtain ⟨a1, a2⟩ := hin y (List.mem_cons_of_mem _ hy)
      obtain ⟨b1, b2⟩ := hin x List.mem_cons_self
      have := hi y x a1 b1 a2 b2 e
      rw [this] at hy
      exact h0.1 hy
  have := List.Nodup.length_le_of_subset hnd (l₂ := List.range m) (fun x hx => by
    obtain ⟨y, hy, rfl⟩ := List.mem_map.mp hx
    exact List.mem_range.mpr (hm y (List.mem_range.mp (List.mem_filter.mp hy).1) (List.mem_filter.mp hy).2))
  simpa using this
/-- pigeons, the other way: every counted one is hit by a number below m -/
theorem pc_hit {P : Nat → Bool} {n m : Nat} (g : Nat → Nat) (hg : ∀ j, j < n → P j = true → ∃ k, k < m ∧ g k = j) : pc_cnt P n ≤ m := by
  rw [← pc_len]
  have h0 : ((List.range n).filter P).Nodup := List.Nodup.sublist List.filter_sublist List.nodup_range
  have := List.Nodup.length_le_of_subset h0 (l₂ := (List.range m).map g) (fun x hx => by
    obtain ⟨k, h1, h2⟩ := hg x (List.mem_range.mp (List.mem_filter.mp hx).1) (List.mem_filter.mp hx).2
    exact List.mem_map.mpr ⟨k, List.mem_range.mpr h1, h2⟩)
  simpa using this
/-- levels: if level i holds at most 32 * 2^i, all below level m hold at most 32 * (2^m - 1) -/
theorem pc_levels {P : Nat → Bool} {g : Nat → Nat} {n : Nat} : ∀ {m : Nat}, (∀ i, i < m → pc_cnt (fun j => P j && g j == i) n ≤ 32 * 2 ^ i) → pc_cnt (fun j => P j && decide (g j < m)) n + 32 ≤ 32 * 2 ^ m
  | 0, _ => by
    rw [pc_none (n := n) (fun j _ => by simp)]
    simp
  | m + 1, h => by
    have h1 := pc_levels (P := P) (g := g) (n := n) (m := m) (fun i hi => h i (by omega))
    have h2 := h m (by omega)
    have h3 := pc_split (fun j => P j && decide (g j < m + 1)) (fun j => decide (g j < m)) n
    have h4 : pc_cnt (fun j => (P j && decide (g j < m + 1)) && decide (g j < m)) n = pc_cnt (fun j => P j && decide (g j < m)) n := pc_congr (fun j _ => by
      cases P j
      · simp
      · simp only [Bool.true_and, ← Bool.decide_and]
        exact decide_eq_decide.mpr ⟨fun q => q.2, fun q => ⟨by omega, q⟩⟩)
    have h5 : pc_cnt (fun j => (P j && decide (g j < m + 1)) && !decide (g j < m)) n = pc_cnt (fun j => P j && g j == m) n := pc_congr (fun j _ => by
      cases P j
      · simp
      · rw [Bool.eq_iff_iff]
        simp
        omega)
    rw [h4, h5] at h3
    rw [Nat.pow_succ]
    omega
/-- the list that begins at a and goes on by nx; 0 ends it -/
def pl_lst (nx : Nat → Nat) : Nat → List Nat → Prop
  | a, [] => a = 0
  | a, x :: l => a = x ∧ x ≠ 0 ∧ pl_lst nx (nx x) l
theorem pl_upd {nx : Nat → Nat} {x y : Nat} : ∀ {l : List Nat} {a : Nat}, pl_lst nx a l → x ∉ l → pl_lst (fu nx x y) a l
  | [], _, h, _ => h
  | z :: l, a, h, hx => by
    obtain ⟨h1, h2, h3⟩ := h
    rw [List.mem_cons, not_or] at hx
    exact ⟨h1, h2, by rw [fu_n (fun e => hx.1 e.symm)]; exact pl_upd h3 hx.2⟩
theorem pl_congr {nx ny : Nat → Nat} : ∀ {l : List Nat} {a : Nat}, (∀ x ∈ l, ny x = nx x) → pl_lst nx a l → pl_lst ny a l
  | [], _, _, h => h
  | z :: l, a, hc, h => by
    obtain ⟨h1, h2, h3⟩ := h
    exact ⟨h1, h2, by rw [hc z List.mem_cons_self]; exact pl_congr (fun x hx => hc x (List.mem_cons_of_mem _ hx)) h3⟩
theorem pl_nz {nx : Nat → Nat} : ∀ {l : List Nat} {a : Nat}, pl_lst nx a l → ∀ x ∈ l, x ≠ 0
  | [], _, _, _, hx => absurd hx List.not_mem_nil
  | z :: l, a, h, x, hx => by
    obtain ⟨h1, h2, h3⟩ := h
    rcases List.mem_cons.mp hx with e | e
    · rw [e]; exact h2
    · exact pl_nz h3 x e
theorem pl_0 {nx : Nat → Nat} {l : List Nat} (h : pl_lst nx 0 l) : l = [] := by
  cases l with
  | nil => rfl
  | cons x l => obtain ⟨h1, h2, _⟩ := h; exact absurd h1.symm h2
theorem pl_s {nx : Nat → Nat} {l : List Nat} {a : Nat} (h : pl_lst nx a l) (ha : a ≠ 0) : ∃ l', l = a :: l' ∧ pl_lst nx (nx a) l' := by
  cases l with
  | nil => exact absurd h ha
  | cons x l' => obtain ⟨h1, h2, h3⟩ := h; subst h1; exact ⟨l', rfl, h3⟩
theorem pl_app {nx : Nat → Nat} {b : Nat} {r : List Nat} : ∀ {l : List Nat} {a x : Nat}, pl_lst nx a (l ++ x :: r) → pl_lst nx x (x :: r)
  | [], _, _, h => by obtain ⟨h1, h2, h3⟩ := h; exact ⟨rfl, h2, h3⟩
  | _ :: _, _, _, h => pl_app (b := b) h.2.2
end
section
/-! PURE, 2: the graph of nodes. lv: the level of a variable; V: the nodes that are there; T: those that wait to be written anew while the levels L and L + 1 change places; va, lo, hi: what a node asks, and its children; dn: what function a node stands for. -/
abbrev Bf : Type := (Nat → Bool) → Bool
def bs (a : Nat → Bool) (v : Nat) (b : Bool) : Nat → Bool := fun u => if u = v then b else a u
theorem bs_s (a : Nat → Bool) (v : Nat) (b : Bool) : bs a v b v = b := if_pos rfl
theorem bs_n {a : Nat → Bool} {v : Nat} {b : Bool} {u : Nat} (h : u ≠ v) : bs a v b u = a u := if_neg h
def ind (f : Bf) (x : Nat) : Prop := ∀ (a : Nat → Bool) (b : Bool), f (bs a x b) = f a
def mk (v : Nat) (fl fh : Bf) : Bf := fun a => bif a v then fh a else fl a
theorem mk_t {v : Nat} {fl fh : Bf} {a : Nat → Bool} (h : a v = true) : mk v fl fh a = fh a := by simp [mk, h]
theorem mk_f {v : Nat} {fl fh : Bf} {a : Nat → Bool} (h : a v = false) : mk v fl fh a = fl a := by simp [mk, h]
theorem ind_mk {v x : Nat} {fl fh : Bf} (hx : v ≠ x) (h1 : ind fl x) (h2 : ind fh x) : ind (mk v fl fh) x := fun a b => by
  show (bif bs a x b v then fh (bs a x b) else fl (bs a x b)) = (bif a v then fh a else fl a)
  rw [bs_n hx, h1, h2]
theorem mk_dep {v : Nat} {fl fh : Bf} (h1 : ind fl v) (h2 : ind fh v) (hne : fl ≠ fh) : ¬ ind (mk v fl fh) v := fun h => by
  refine hne (funext fun a => ?_)
  have e1 : mk v fl fh (bs a v false) = fl a := by rw [mk_f (bs_s a v false), h1]
  have e2 : mk v fl fh (bs a v true) = fh a := by rw [mk_t (bs_s a v true), h2]
  rw [← e1, ← e2, h, h]
theorem mk_inj {v : Nat} {f1 f2 g1 g2 : Bf} (a1 : ind f1 v) (a2 : ind f2 v) (b1 : ind g1 v) (b2 : ind g2 v) (h : mk v f1 g1 = mk v f2 g2) : f1 = f2 ∧ g1 = g2 := by
  constructor
  · funext a
    have := congrFun h (bs a v false)
    rw [mk_f (bs_s a v false), mk_f (bs_s a v false), a1, a2] at this
    exact this
  · funext a
    have := congrFun h (bs a v true)
    rw [mk_t (bs_s a v true), mk_t (bs_s a v true), b1, b2] at this
    exact this
theorem mk_same (v : Nat) (f : Bf) : mk v f f = f := by
  funext a
  unfold mk
  cases a v <;> rfl
/-- the order: lv and vr undo each other on 0 .. 12, and 12 (the ends) stands last -/
def lp (lv vr : Nat → Nat) : Prop := (∀ v, v < 13 → lv v < 13 ∧ vr (lv v) = v) ∧ (∀ k, k < 13 → vr k < 13 ∧ lv (vr k) = k) ∧ lv 12 = 12
theorem lp_inj {lv vr : Nat → Nat} (h : lp lv vr) {u v : Nat} (hu : u < 13) (hv : v < 13) (e : lv u = lv v) : u = v := by
  rw [← (h.1 u hu).2, ← (h.1 v hv).2, e]
theorem lp_lt {lv vr : Nat → Nat} (h : lp lv vr) {v : Nat} (hv : v < 12) : lv v < 12 := by
  have h1 := (h.1 v (by omega)).1
  rcases Nat.lt_or_ge (lv v) 12 with q | q
  · exact q
  · have e : lv v = lv 12 := by rw [h.2.2]; omega
    have := lp_inj h (by omega) (by omega) e
    omega
theorem lp_vr {lv vr : Nat → Nat} (h : lp lv vr) {k : Nat} (hk : k < 12) : vr k < 12 := by
  obtain ⟨h1, h2⟩ := h.2.1 k (by omega)
  rcases Nat.lt_or_ge (vr k) 12 with q | q
  · exact q
  · have e : vr k = 12 := by omega
    rw [e, h.2.2] at h2
    omega
def vl (V : Nat → Bool) (i : Nat) : Prop := i ≤ 1 ∨ V i = true
def rk (lv va : Nat → Nat) (T : Nat → Bool) (L i : Nat) : Nat := if T i = true then L else lv (va i)
theorem rk_f {lv va : Nat → Nat} {T : Nat → Bool} {L i : Nat} (h : T i = false) : rk lv va T L i = lv (va i) := by
  unfold rk; rw [h]; rfl
theorem rk_t {lv va : Nat → Nat} {T : Nat → Bool} {L i : Nat} (h : T i = true) : rk lv va T L i = L := if_pos h
def gpk (lv : Nat → Nat) (V T : Nat → Bool) (L : Nat) (va lo hi : Nat → Nat) (c : Nat) : Prop := T c = false ∧ (L + 1 < lv (va c) ∨ (lv (va c) = L ∧ V c = true ∧ L + 1 < lv (va (lo c)) ∧ L + 1 < lv (va (hi c))))
def gi (lv : Nat → Nat) (V T : Nat → Bool) (L : Nat) (va lo hi : Nat → Nat) (dn : Nat → Bf) : Prop :=
  (∀ i, V i = true → 2 ≤ i ∧ va i < 12 ∧ vl V (lo i) ∧ vl V (hi i)) ∧
  (va 0 = 12 ∧ va 1 = 12 ∧ dn 0 = (fun _ => false) ∧ dn 1 = (fun _ => true)) ∧
  (∀ i, V i = true → dn i = mk (va i) (dn (lo i)) (dn (hi i))) ∧
  (∀ i j, vl V i → vl V j → dn i = dn j → i = j) ∧
  (∀ i, V i = true → T i = false → lv (va i) < rk lv va T L (lo i) ∧ lv (va i) < rk lv va T L (hi i)) ∧
  (∀ i, T i = true → V i = true ∧ lv (va i) = L + 1 ∧ gpk lv V T L va lo hi (lo i) ∧ gpk lv V T L va lo hi (hi i) ∧ (lv (va (lo i)) = L ∨ lv (va (hi i)) = L))
section
variable {lv vr : Nat → Nat} {V T : Nat → Bool} {L : Nat} {va lo hi : Nat → Nat} {dn : Nat → Bf}
theorem gi_T0 (h : gi lv V T L va lo hi dn) {i : Nat} (hi1 : i ≤ 1) : T i = false := by
  cases ht : T i
  · rfl
  · have := (h.1 i (h.2.2.2.2.2 i ht).1).1
    omega
theorem gi_V0 (h : gi lv V T L va lo hi dn) {i : Nat} (hi1 : i ≤ 1) : V i = false := by
  cases ht : V i
  · rfl
  · have := (h.1 i ht).1
    omega
theorem gi_va (h : gi lv V T L va lo hi dn) {i : Nat} (hv : vl V i) : va i < 13 := by
  rcases hv with q | q
  · have e : i = 0 ∨ i = 1 := by omega
    rcases e with e | e
    · rw [e, h.2.1.1]; omega
    · rw [e, h.2.1.2.1]; omega
  · have := (h.1 i q).2.1
    omega
theorem gi_end (h : gi lv V T L va lo hi dn) {i : Nat} (hi1 : i ≤ 1) : va i = 12 := by
  have e : i = 0 ∨ i = 1 := by omega
  rcases e with e | e
  · rw [e, h.2.1.1]
  · rw [e, h.2.1.2.1]
/-- a node's function hangs only on the variables from its rank on -/
theorem gi_cong (h : gi lv V T L va lo hi dn) (hp : lp lv vr) : ∀ (n i : Nat), vl V i → 2 * (13 - rk lv va T L i) + (T i).toNat ≤ n → ∀ (a b : Nat → Bool), (∀ x, x < 12 → rk lv va T L i ≤ lv x → a x = b x) → dn i a = dn i b := by
  intro n
  induction n with
  | zero =>
    intro i hv hm a b hab
    rcases hv with q | q
    · have e : i = 0 ∨ i = 1 := by omega
      rcases e with e | e
      · rw [e, h.2.1.2.2.1]
      · rw [e, h.2.1.2.2.2]
    · exfalso
      have hva := (h.1 i q).2.1
      have h1 := lp_lt hp hva
      cases ht : T i
      · rw [rk_f ht] at hm; omega
      · rw [ht] at hm; simp at hm
  | succ n ih =>
    intro i hv hm a b hab
    rcases hv with q | q
    · have e : i = 0 ∨ i = 1 := by omega
      rcases e with e | e
      · rw [e, h.2.1.2.2.1]
      · rw [e, h.2.1.2.2.2]
    · obtain ⟨-, hva, hl, hh⟩ := h.1 i q
      have hlt := lp_lt hp hva
      rw [h.2.2.1 i q]
      have key : ∀ c, vl V c → (2 * (13 - rk lv va T L c) + (T c).toNat ≤ n) → rk lv va T L i ≤ rk lv va T L c → dn c a = dn c b := fun c hc hn hr => ih c hc hn a b (fun x hx hxc => hab x hx (Nat.le_trans hr hxc))
      have hroot : a (va i) = b (va i) := by
        refine hab (va i) hva ?_
        cases ht : T i
        · rw [rk_f ht]; exact Nat.le_refl _
        · rw [rk_t ht, (h.2.2.2.2.2 i ht).2.1]; omega
      have hch : dn (lo i) a = dn (lo i) b ∧ dn (hi i) a = dn (hi i) b := by
        cases ht : T i
        · obtain ⟨r1, r2⟩ := h.2.2.2.2.1 i q ht
          rw [rk_f ht, ht] at hm
          have t1 : (T (lo i)).toNat ≤ 1 := Bool.toNat_le _
          have t2 : (T (hi i)).toNat ≤ 1 := Bool.toNat_le _
          simp only [Bool.toNat_false] at hm
          refine ⟨key _ hl (by omega) (by rw [rk_f ht]; omega), key _ hh (by omega) (by rw [rk_f ht]; omega)⟩
        · obtain ⟨-, r0, ⟨t1, r1⟩, ⟨t2, r2⟩, -⟩ := h.2.2.2.2.2 i ht
          rw [rk_t ht, ht] at hm
          simp only [Bool.toNat_true] at hm
          refine ⟨key _ hl ?_ ?_, key _ hh ?_ ?_⟩
          · rw [rk_f t1, t1]; simp only [Bool.toNat_false]; omega
          · rw [rk_t ht, rk_f t1]; omega
          · rw [rk_f t2, t2]; simp only [Bool.toNat_false]; omega
          · rw [rk_t ht, rk_f t2]; omega
      show (bif a (va i) then dn (hi i) a else dn (lo i) a) = (bif b (va i) then dn (hi i) b else dn (lo i) b)
      rw [hroot, hch.1, hch.2]
theorem gi_same (h : gi lv V T L va lo hi dn) (hp : lp lv vr) {i : Nat} (hv : vl V i) {a b : Nat → Bool} (hab : ∀ x, x < 12 → rk lv va T L i ≤ lv x → a x = b x) : dn i a = dn i b := gi_cong h hp _ i hv (Nat.le_refl _) a b hab
theorem gi_ind (h : gi lv V T L va lo hi dn) (hp : lp lv vr) {i x : Nat} (hv : vl V i) (hx : lv x < rk lv va T L i) : ind (dn i) x := fun a b => gi_same h hp hv (fun y _ hr => bs_n (fun e => by rw [e] at hr; omega))
/-- the children of a node do not hang on what it asks -/
theorem gi_ch (h : gi lv V T L va lo hi dn) (hp : lp lv vr) {i : Nat} (hv : V i = true) : ind (dn (lo i)) (va i) ∧ ind (dn (hi i)) (va i) := by
  obtain ⟨h2, hva, hl, hh⟩ := h.1 i hv
  cases ht : T i
  · obtain ⟨r1, r2⟩ := h.2.2.2.2.1 i hv ht
    exact ⟨gi_ind h hp hl r1, gi_ind h hp hh r2⟩
  · obtain ⟨-, r0, k1, k2, -⟩ := h.2.2.2.2.2 i ht
    have key : ∀ c, vl V c → gpk lv V T L va lo hi c → ind (dn c) (va i) := by
      intro c hc hk
      obtain ⟨t1, q | ⟨q1, q2, q3, q4⟩⟩ := hk
      · exact gi_ind h hp hc (by rw [rk_f t1]; omega)
      · obtain ⟨-, cva, cl, ch⟩ := h.1 c q2
        obtain ⟨s1, s2⟩ := h.2.2.2.2.1 c q2 t1
        have u1 : T (lo c) = false := by
          cases e : T (lo c)
          · rfl
          · rw [rk_t e] at s1; omega
        have u2 : T (hi c) = false := by
          cases e : T (hi c)
          · rfl
          · rw [rk_t e] at s2; omega
        rw [h.2.2.1 c q2]
        refine ind_mk (fun e => by rw [e] at q1; omega) (gi_ind h hp cl (by rw [rk_f u1]; omega)) (gi_ind h hp ch (by rw [rk_f u2]; omega))
    exact ⟨key _ hl k1, key _ hh k2⟩
theorem gi_two (h : gi lv V T L va lo hi dn) {i : Nat} (hv : V i = true) : dn (lo i) ≠ dn (hi i) := fun e => by
  obtain ⟨h2, hva, hl, hh⟩ := h.1 i hv
  have e1 : dn i = dn (lo i) := by rw [h.2.2.1 i hv, ← e, mk_same]
  have e2 := h.2.2.2.1 i (lo i) (Or.inr hv) hl e1
  cases ht : T i
  · have r1 := (h.2.2.2.2.1 i hv ht).1
    rw [← e2, rk_f ht] at r1
    omega
  · have k1 := (h.2.2.2.2.2 i ht).2.2.1.1
    rw [← e2, ht] at k1
    cases k1
theorem gi_ne (h : gi lv V T L va lo hi dn) {i : Nat} (hv : V i = true) : lo i ≠ hi i := fun e => gi_two h hv (by rw [e])
theorem gi_dep (h : gi lv V T L va lo hi dn) (hp : lp lv vr) {i : Nat} (hv : V i = true) : ¬ ind (dn i) (va i) := by
  rw [h.2.2.1 i hv]
  exact mk_dep (gi_ch h hp hv).1 (gi_ch h hp hv).2 (gi_two h hv)
theorem ind_lift {v x : Nat} {fl fh : Bf} (hx : v ≠ x) (h1 : ind fl v) (h2 : ind fh v) (h : ind (mk v fl fh) x) : ind fl x ∧ ind fh x := by
  constructor
  · intro a b
    have e := h (bs a v false) b
    have c : bs (bs a v false) x b v = false := by rw [bs_n hx, bs_s]
    rw [mk_f c, mk_f (bs_s a v false), h1] at e
    have c2 : bs (bs a v false) x b = bs (bs a x b) v false := by
      funext u
      by_cases p : u = x
      · subst p; rw [bs_s, bs_n (fun q => hx q.symm), bs_s]
      · rw [bs_n p]
        by_cases p2 : u = v
        · subst p2; rw [bs_s, bs_s]
        · rw [bs_n p2, bs_n p2, bs_n p]
    rw [c2, h1] at e
    exact e
  · intro a b
    have e := h (bs a v true) b
    have c : bs (bs a v true) x b v = true := by rw [bs_n hx, bs_s]
    rw [mk_t c, mk_t (bs_s a v true), h2] at e
    have c2 : bs (bs a v true) x b = bs (bs a x b) v true := by
      funext u
      by_cases p : u = x
      · subst p; rw [bs_s, bs_n (fun q => hx q.symm), bs_s]
      · rw [bs_n p]
        by_cases p2 : u = v
        · subst p2; rw [bs_s, bs_s]
        · rw [bs_n p2, bs_n p2, bs_n p]
    rw [c2, h2] at e
    exact e
/-- one that waits hangs on the variable of level L -/
theorem gi_depT (h : gi lv V T L va lo hi dn) (hp : lp lv vr) {i w : Nat} (ht : T i = true) (hw : w < 13) (hL : lv w = L) : ¬ ind (dn i) w := fun hc => by
  obtain ⟨hv, r0, ⟨t1, k1⟩, ⟨t2, k2⟩, k3⟩ := h.2.2.2.2.2 i ht
  obtain ⟨h2, hva, hl, hh⟩ := h.1 i hv
  rw [h.2.2.1 i hv] at hc
  have hne : va i ≠ w := fun e => by rw [e] at r0; omega
  obtain ⟨c1, c2⟩ := ind_lift hne (gi_ch h hp hv).1 (gi_ch h hp hv).2 hc
  rcases k3 with e | e
  · have e2 : va (lo i) = w := lp_inj hp (gi_va h hl) hw (by rw [e, hL])
    rcases k1 with q | ⟨-, q, -⟩
    · omega
    · exact gi_dep h hp q (by rw [e2]; exact c1)
  · have e2 : va (hi i) = w := lp_inj hp (gi_va h hh) hw (by rw [e, hL])
    rcases k2 with q | ⟨-, q, -⟩
    · omega
    · exact gi_dep h hp q (by rw [e2]; exact c2)
/-- a function's node stands no higher than the function hangs -/
theorem gi_lev (h : gi lv V T L va lo hi dn) (hp : lp lv vr) {r k : Nat} (hr : vl V r) (hi1 : ∀ x, x < 12 → lv x < k → ind (dn r) x) (hk : k ≤ 12) : k ≤ lv (va r) := by
  rcases Nat.lt_or_ge (lv (va r)) k with q | q
  · exfalso
    rcases hr with e | e
    · rw [gi_end h e, hp.2.2] at q; omega
    · exact gi_dep h hp e (hi1 _ (h.1 r e).2.1 q)
  · exact q
/-- no node stands yet for a node that is not found -/
theorem gi_new (h : gi lv V T L va lo hi dn) (hp : lp lv vr) {v low high : Nat} (hv : v < 12) (hTL : ∀ i, T i = true → L < lv v) (hl : vl V low) (hh : vl V high) (tl : T low = false) (th : T high = false) (ll : lv v < lv (va low)) (lh : lv v < lv (va high)) (hne : low ≠ high)
    (nf : ∀ j, V j = true → T j = false → va j = v → lo j = low → hi j = high → False) {j : Nat} (hj : vl V j) : dn j ≠ mk v (dn low) (dn high) := fun e => by
  have i1 : ind (dn low) v := gi_ind h hp hl (by rw [rk_f tl]; exact ll)
  have i2 : ind (dn high) v := gi_ind h hp hh (by rw [rk_f th]; exact lh)
  have hdep : ¬ ind (mk v (dn low) (dn high)) v := mk_dep i1 i2 (fun q => hne (h.2.2.2.1 _ _ hl hh q))
  have hup : ∀ x, lv x < lv v → ind (mk v (dn low) (dn high)) x := fun x hx => ind_mk (fun q => by rw [q] at hx; omega) (gi_ind h hp hl (by rw [rk_f tl]; omega)) (gi_ind h hp hh (by rw [rk_f th]; omega))
  rcases hj with q | q
  · have q' : j = 0 ∨ j = 1 := by omega
    refine hdep ?_
    rw [← e]
    rcases q' with q' | q'
    · rw [q', h.2.1.2.2.1]; exact fun _ _ => rfl
    · rw [q', h.2.1.2.2.2]; exact fun _ _ => rfl
  · have jva := (h.1 j q).2.1
    cases ht : T j
    · rcases Nat.lt_trichotomy (lv (va j)) (lv v) with c | c | c
      · exact gi_dep h hp q (by rw [e]; exact hup _ c)
      · have ev : va j = v := lp_inj hp (by omega) (by omega) c
        obtain ⟨c1, c2⟩ := gi_ch h hp q
        rw [ev] at c1 c2
        rw [h.2.2.1 j q, ev] at e
        obtain ⟨e1, e2⟩ := mk_inj c1 i1 c2 i2 e
        exact nf j q ht ev (h.2.2.2.1 _ _ (h.1 j q).2.2.1 hl e1) (h.2.2.2.1 _ _ (h.1 j q).2.2.2 hh e2)
      · exact hdep (by rw [← e]; exact gi_ind h hp (Or.inr q) (by rw [rk_f ht]; exact c))
    · have hL := hTL j ht
      obtain ⟨-, r0, -⟩ := h.2.2.2.2.2 j ht
      have hL12 : L < 13 := by
        have := (hp.1 (va j) (by omega)).1
        omega
      obtain ⟨w1, w2⟩ := hp.2.1 L hL12
      exact gi_depT h hp ht w1 w2 (by rw [e]; exact hup _ (by rw [w2]; exact hL))
end
end
section
/-! PURE, 3: what the graph's invariant survives: a new node, a node that goes, two levels that change places. -/
section
variable {lv vr : Nat → Nat} {V T : Nat → Bool} {L : Nat} {va lo hi : Nat → Nat} {dn : Nat → Bf}
theorem gi_add (h : gi lv V T L va lo hi dn) (hp : lp lv vr) {v low high k : Nat} (hv : v < 12) (hTL : ∀ i, T i = true → L < lv v) (hl : vl V low) (hh : vl V high) (tl : T low = false) (th : T high = false) (ll : lv v < lv (va low)) (lh : lv v < lv (va high)) (hne : low ≠ high)
    (nf : ∀ j, V j = true → T j = false → va j = v → lo j = low → hi j = high → False) (hk : V k = false) (hk2 : 2 ≤ k) :
    gi lv (fu V k true) T L (fu va k v) (fu lo k low) (fu hi k high) (fu dn k (mk v (dn low) (dn high))) := by
  have hnk : ∀ i, vl V i → i ≠ k := fun i hi1 e => by
    rcases hi1 with q | q
    · omega
    · rw [e, hk] at q; cases q
  have hTk : T k = false := by
    cases e : T k
    · rfl
    · have := (h.2.2.2.2.2 k e).1
      rw [hk] at this; cases this
  have hvl : ∀ i, vl V i → vl (fu V k true) i := fun i hi1 => by
    rcases hi1 with q | q
    · exact Or.inl q
    · refine Or.inr ?_
      rw [fu_n (hnk i (Or.inr q))]; exact q
  have hVn : ∀ i, i ≠ k → fu V k true i = true → V i = true := fun i hi1 q => by rw [fu_n hi1] at q; exact q
  have hrk : ∀ c, vl V c → rk lv (fu va k v) T L c = rk lv va T L c := fun c hc => by
    unfold rk; rw [fu_n (hnk c hc)]
  have hgpk : ∀ c, vl V c → gpk lv V T L va lo hi c → gpk lv (fu V k true) T L (fu va k v) (fu lo k low) (fu hi k high) c := fun c hc hk1 => by
    obtain ⟨q0, q1⟩ := hk1
    refine ⟨q0, ?_⟩
    rw [fu_n (hnk c hc)]
    rcases q1 with q1 | ⟨q1, q2, q3, q4⟩
    · exact Or.inl q1
    · obtain ⟨-, -, cl, ch⟩ := h.1 c q2
      rw [fu_n (f := lo) (hnk c hc), fu_n (f := hi) (hnk c hc), fu_n (f := V) (hnk c hc), fu_n (hnk _ cl), fu_n (hnk _ ch)]
      exact Or.inr ⟨q1, q2, q3, q4⟩
  refine ⟨fun i q => ?_, ?_, fun i q => ?_, fun i j qi qj e => ?_, fun i q t => ?_, fun i t => ?_⟩
  · by_cases e : i = k
    · subst e
      rw [fu_s, fu_s, fu_s]
      exact ⟨hk2, hv, hvl _ hl, hvl _ hh⟩
    · rw [fu_n e, fu_n e, fu_n e]
      obtain ⟨q1, q2, q3, q4⟩ := h.1 i (hVn i e q)
      exact ⟨q1, q2, hvl _ q3, hvl _ q4⟩
  · rw [fu_n (by omega : (0 : Nat) ≠ k), fu_n (by omega : (1 : Nat) ≠ k), fu_n (by omega : (0 : Nat) ≠ k), fu_n (by omega : (1 : Nat) ≠ k)]
    exact h.2.1
  · by_cases e : i = k
    · subst e
      rw [fu_s, fu_s, fu_s, fu_s, fu_n (hnk _ hl), fu_n (hnk _ hh)]
    · obtain ⟨q1, q2, q3, q4⟩ := h.1 i (hVn i e q)
      rw [fu_n e, fu_n e, fu_n e, fu_n e, fu_n (hnk _ q3), fu_n (hnk _ q4)]
      exact h.2.2.1 i (hVn i e q)
  · have hold : ∀ x, x ≠ k → vl (fu V k true) x → vl V x := fun x hx q => by
      rcases q with q | q
      · exact Or.inl q
      · exact Or.inr (hVn x hx q)
    by_cases ei : i = k
    · by_cases ej : j = k
      · rw [ei, ej]
      · exfalso
        rw [ei, fu_s, fu_n ej] at e
        exact gi_new h hp hv hTL hl hh tl th ll lh hne nf (hold j ej qj) e.symm
    · by_cases ej : j = k
      · exfalso
        rw [ej, fu_s, fu_n ei] at e
        exact gi_new h hp hv hTL hl hh tl th ll lh hne nf (hold i ei qi) e
      · rw [fu_n ei, fu_n ej] at e
        exact h.2.2.2.1 i j (hold i ei qi) (hold j ej qj) e
  · by_cases e : i = k
    · subst e
      rw [fu_s, fu_s, fu_s, hrk _ hl, hrk _ hh, rk_f tl, rk_f th]
      exact ⟨ll, lh⟩
    · have qV := hVn i e q
      obtain ⟨q1, q2, q3, q4⟩ := h.1 i qV
      rw [fu_n e, fu_n e, fu_n e, hrk _ q3, hrk _ q4]
      exact h.2.2.2.2.1 i qV t
  · obtain ⟨q0, q1, q2, q3, q4⟩ := h.2.2.2.2.2 i t
    have e : i ≠ k := hnk i (Or.inr q0)
    obtain ⟨-, -, c1, c2⟩ := h.1 i q0
    rw [fu_n e, fu_n e, fu_n e, fu_n e, fu_n (hnk _ c1), fu_n (hnk _ c2)]
    exact ⟨q0, q1, hgpk _ c1 q2, hgpk _ c2 q3, q4⟩
/-- what nobody refers to may go -/
theorem gi_del (h : gi lv V T L va lo hi dn) {k : Nat} (hT : T k = false) (hr : ∀ i, V i = true → i ≠ k → lo i ≠ k ∧ hi i ≠ k) : gi lv (fu V k false) T L va lo hi dn := by
  have hV : ∀ i, fu V k false i = true → i ≠ k ∧ V i = true := fun i q => by
    by_cases e : i = k
    · rw [e, fu_s] at q; cases q
    · rw [fu_n e] at q; exact ⟨e, q⟩
  have hvl : ∀ c, c ≠ k → vl V c → vl (fu V k false) c := fun c e q => by
    rcases q with q | q
    · exact Or.inl q
    · exact Or.inr (by rw [fu_n e]; exact q)
  have hvo : ∀ c, vl (fu V k false) c → vl V c := fun c q => by
    rcases q with q | q
    · exact Or.inl q
    · exact Or.inr (hV c q).2
  have hgpk : ∀ c, gpk lv V T L va lo hi c → c ≠ k → gpk lv (fu V k false) T L va lo hi c := fun c q e => by
    unfold gpk
    rw [fu_n e]
    exact q
  refine ⟨fun i q => ?_, h.2.1, fun i q => h.2.2.1 i (hV i q).2, fun i j qi qj e => h.2.2.2.1 i j (hvo i qi) (hvo j qj) e, fun i q t => h.2.2.2.2.1 i (hV i q).2 t, fun i t => ?_⟩
  · obtain ⟨e, q1⟩ := hV i q
    obtain ⟨a1, a2, a3, a4⟩ := h.1 i q1
    obtain ⟨b1, b2⟩ := hr i q1 e
    exact ⟨a1, a2, hvl _ b1 a3, hvl _ b2 a4⟩
  · obtain ⟨q0, q1, q2, q3, q4⟩ := h.2.2.2.2.2 i t
    have e : i ≠ k := fun e => by rw [e, hT] at t; cases t
    obtain ⟨b1, b2⟩ := hr i q0 e
    exact ⟨by rw [fu_n e]; exact q0, q1, hgpk _ q2 b1, hgpk _ q3 b2, q4⟩
/-- no one waits: L says nothing -/
theorem gi_L (h : gi lv V T L va lo hi dn) (hT : ∀ i, T i = false) (L' : Nat) : gi lv V (fun _ => false) L' va lo hi dn := by
  refine ⟨h.1, h.2.1, h.2.2.1, h.2.2.2.1, fun i q _ => ?_, fun i t => by cases t⟩
  obtain ⟨a, b⟩ := h.2.2.2.2.1 i q (hT i)
  rw [rk_f (hT _)] at a b
  rw [rk_f rfl, rk_f rfl]
  exact ⟨a, b⟩
/-- the levels L (of u) and L + 1 (of w) have changed places; those that ask u and then w wait -/
theorem gi_turn (h : gi lv V (fun _ => false) L va lo hi dn) (hp : lp lv vr) {u w : Nat} (hL : L + 1 < 12) (hu : u < 12) (hw : w < 12) (lu : lv u = L) (lw : lv w = L + 1) {lv' : Nat → Nat} (l1 : lv' w = L) (l2 : lv' u = L + 1) (l3 : ∀ x, x ≠ u → x ≠ w → lv' x = lv x)
    {T' : Nat → Bool} (hT : ∀ i, T' i = (V i && (va i == u && (va (lo i) == w || va (hi i) == w)))) : gi lv' V T' L va lo hi dn := by
  have hord : ∀ i, V i = true → lv (va i) < lv (va (lo i)) ∧ lv (va i) < lv (va (hi i)) := fun i q => by
    have := h.2.2.2.2.1 i q rfl
    rw [rk_f rfl, rk_f rfl] at this
    exact this
  have e1 : ∀ x, x < 13 → lv x = L → x = u := fun x hx e => lp_inj hp hx (by omega) (by rw [e, lu])
  have e2 : ∀ x, x < 13 → lv x = L + 1 → x = w := fun x hx e => lp_inj hp hx (by omega) (by rw [e, lw])
  have l4 : ∀ x, lv x < L ∨ L + 1 < lv x → lv' x = lv x := fun x hx => l3 x (fun e => by rw [e] at hx; omega) (fun e => by rw [e] at hx; omega)
  have hTt : ∀ i, T' i = true → V i = true ∧ va i = u ∧ (va (lo i) = w ∨ va (hi i) = w) := fun i q => by
    rw [hT i] at q
    simp at q
    exact q
  have hTf : ∀ i, V i = true → va i = u → T' i = false → va (lo i) ≠ w ∧ va (hi i) ≠ w := fun i q1 q2 q => by
    rw [hT i, q1, q2] at q
    simp at q
    exact q
  have hTu : ∀ i, va i ≠ u → T' i = false := fun i q => by
    rw [hT i]
    simp [q]
  have stp : ∀ i c, V i = true → T' i = false → vl V c → lv (va i) < lv (va c) → (va i = u → va c ≠ w) → lv' (va i) < rk lv' va T' L c := by
    intro i c q t hc ho hx
    have iva := (h.1 i q).2.1
    have cva := gi_va h hc
    cases tc : T' c
    · rw [rk_f tc]
      rcases Nat.lt_trichotomy (lv (va i)) L with k | k | k
      · rw [l4 _ (Or.inl k)]
        by_cases c1 : va c = u
        · rw [c1, l2]; omega
        · by_cases c2 : va c = w
          · rw [c2, l1]; omega
          · rw [l3 _ c1 c2]; exact ho
      · have iu := e1 _ (by omega) k
        have c2 := hx iu
        have c3 : lv (va c) ≠ L + 1 := fun e => c2 (e2 _ cva e)
        rw [l4 (va c) (Or.inr (by omega)), iu, l2]
        omega
      · rcases Nat.lt_or_ge (L + 1) (lv (va i)) with k2 | k2
        · rw [l4 _ (Or.inr k2), l4 _ (Or.inr (by omega))]; exact ho
        · have iw := e2 _ (by omega) (by omega : lv (va i) = L + 1)
          rw [iw, l1, l4 (va c) (Or.inr (by omega))]
          omega
    · obtain ⟨-, c1, -⟩ := hTt c tc
      rw [rk_t tc]
      rw [c1, lu] at ho
      rw [l4 _ (Or.inl ho)]
      exact ho
  have hpk : ∀ i c, V i = true → va i = u → vl V c → lv (va i) < lv (va c) → gpk lv' V T' L va lo hi c := by
    intro i c q iu hc ho
    rw [iu, lu] at ho
    have cva := gi_va h hc
    refine ⟨hTu c (fun e => by rw [e, lu] at ho; omega), ?_⟩
    rcases Nat.lt_or_ge (L + 1) (lv (va c)) with k | k
    · exact Or.inl (by rw [l4 _ (Or.inr k)]; exact k)
    · have cw := e2 _ cva (by omega : lv (va c) = L + 1)
      have cV : V c = true := by
        rcases hc with z | z
        · have := gi_end h z
          omega
        · exact z
      obtain ⟨o1, o2⟩ := hord c cV
      rw [cw, lw] at o1 o2
      exact Or.inr ⟨by rw [cw, l1], cV, by rw [l4 _ (Or.inr o1)]; exact o1, by rw [l4 _ (Or.inr o2)]; exact o2⟩
  refine ⟨h.1, h.2.1, h.2.2.1, h.2.2.2.1, fun i q t => ?_, fun i t => ?_⟩
  · obtain ⟨o1, o2⟩ := hord i q
    obtain ⟨-, -, c1, c2⟩ := h.1 i q
    exact ⟨stp i _ q t c1 o1 (fun e => (hTf i q e t).1), stp i _ q t c2 o2 (fun e => (hTf i q e t).2)⟩
  · obtain ⟨q, iu, k⟩ := hTt i t
    obtain ⟨o1, o2⟩ := hord i q
    obtain ⟨-, -, c1, c2⟩ := h.1 i q
    refine ⟨q, by rw [iu, l2], hpk i _ q iu c1 o1, hpk i _ q iu c2 o2, ?_⟩
    rcases k with k | k
    · exact Or.inl (by rw [k, l1])
    · exact Or.inr (by rw [k, l1])
/-- one that waited is written anew: it asks the variable of level L -/
theorem gi_write (h : gi lv V T L va lo hi dn) {p w low high : Nat} (tp : T p = true) (hw : w < 12) (lw : lv w = L) (hl : vl V low) (hh : vl V high) (tl : T low = false) (th : T high = false) (ll : L < lv (va low)) (lh : L < lv (va high)) (hd : dn p = mk w (dn low) (dn high)) :
    gi lv V (fu T p false) L (fu va p w) (fu lo p low) (fu hi p high) dn := by
  obtain ⟨vp, lp1, -⟩ := h.2.2.2.2.2 p tp
  have p2 := (h.1 p vp).1
  have hTf : ∀ c, T c = false → c ≠ p := fun c q e => by rw [e, tp] at q; cases q
  have hTo : ∀ c, T c = false → fu T p false c = false := fun c q => by rw [fu_n (hTf c q)]; exact q
  have hrk : ∀ c, rk lv (fu va p w) (fu T p false) L c = rk lv va T L c := fun c => by
    by_cases e : c = p
    · subst e
      rw [rk_f (fu_s _ _ _), rk_t tp, fu_s, lw]
    · unfold rk
      rw [fu_n e, fu_n e]
  have hgpk : ∀ c, gpk lv V T L va lo hi c → gpk lv V (fu T p false) L (fu va p w) (fu lo p low) (fu hi p high) c := fun c q => by
    obtain ⟨q0, q1⟩ := q
    have e := hTf c q0
    refine ⟨hTo c q0, ?_⟩
    rw [fu_n e]
    rcases q1 with q1 | ⟨q1, q2, q3, q4⟩
    · exact Or.inl q1
    · have c1 : lo c ≠ p := fun z => by rw [z, lp1] at q3; omega
      have c2 : hi c ≠ p := fun z => by rw [z, lp1] at q4; omega
      rw [fu_n (f := lo) e, fu_n (f := hi) e, fu_n c1, fu_n c2]
      exact Or.inr ⟨q1, q2, q3, q4⟩
  refine ⟨fun i q => ?_, ?_, fun i q => ?_, h.2.2.2.1, fun i q t => ?_, fun i t => ?_⟩
  · obtain ⟨a1, a2, a3, a4⟩ := h.1 i q
    by_cases e : i = p
    · subst e
      rw [fu_s, fu_s, fu_s]
      exact ⟨a1, hw, hl, hh⟩
    · rw [fu_n e, fu_n e, fu_n e]
      exact ⟨a1, a2, a3, a4⟩
  · rw [fu_n (by omega : (0 : Nat) ≠ p), fu_n (by omega : (1 : Nat) ≠ p)]
    exact h.2.1
  · by_cases e : i = p
    · subst e
      rw [fu_s, fu_s, fu_s]
      exact hd
    · rw [fu_n e, fu_n e, fu_n e]
      exact h.2.2.1 i q
  · rw [hrk, hrk]
    by_cases e : i = p
    · subst e
      rw [fu_s, fu_s, fu_s, rk_f tl, rk_f th, lw]
      exact ⟨ll, lh⟩
    · rw [fu_n e] at t
      rw [fu_n e, fu_n e, fu_n e]
      exact h.2.2.2.2.1 i q t
  · have e : i ≠ p := fun z => by rw [z, fu_s] at t; cases t
    rw [fu_n e] at t
    obtain ⟨q0, q1, q2, q3, q4⟩ := h.2.2.2.2.2 i t
    rw [fu_n e, fu_n e, fu_n e, fu_n (hTf _ q2.1), fu_n (hTf _ q3.1)]
    exact ⟨q0, q1, hgpk _ q2, hgpk _ q3, q4⟩
end
end
section
/-! PURE, 4: how many nodes there can be. -/
/-- a row of n truths as a number -/
def tbc (f : Nat → Bool) : Nat → Nat
  | 0 => 0
  | n + 1 => (f 0).toNat + 2 * tbc (fun m => f (m + 1)) n
theorem tbc_lt : ∀ (n : Nat) (f : Nat → Bool), tbc f n < 2 ^ n
  | 0, _ => by simp [tbc]
  | n + 1, f => by
    have h := tbc_lt n (fun m => f (m + 1))
    have b := Bool.toNat_le (f 0)
    show (f 0).toNat + 2 * tbc (fun m => f (m + 1)) n < 2 ^ (n + 1)
    rw [Nat.pow_succ]
    omega
theorem tbc_bit : ∀ (n : Nat) (f : Nat → Bool) (j : Nat), j < n → (tbc f n).testBit j = f j
  | 0, _, _, h => by omega
  | n + 1, f, 0, _ => by
    show ((f 0).toNat + 2 * tbc (fun m => f (m + 1)) n).testBit 0 = f 0
    rw [Nat.testBit_zero]
    cases f 0
    · simp
    · simp
  | n + 1, f, j + 1, h => by
    show ((f 0).toNat + 2 * tbc (fun m => f (m + 1)) n).testBit (j + 1) = f (j + 1)
    rw [Nat.testBit_add_one]
    have b := Bool.toNat_le (f 0)
    rw [show ((f 0).toNat + 2 * tbc (fun m => f (m + 1)) n) / 2 = tbc (fun m => f (m + 1)) n by omega]
    exact tbc_bit n (fun m => f (m + 1)) j (by omega)
theorem tbc_inj {n : Nat} {f g : Nat → Bool} (h : tbc f n = tbc g n) (j : Nat) (hj : j < n) : f j = g j := by
  rw [← tbc_bit n f j hj, ← tbc_bit n g j hj, h]
section
variable {lv vr : Nat → Nat} {V T : Nat → Bool} {L : Nat} {va lo hi : Nat → Nat} {dn : Nat → Bf}
/-- the last three levels hold 254 nodes at most: with the ends, all functions of three variables -/
theorem gi_bot (h : gi lv V T L va lo hi dn) (hp : lp lv vr) {n : Nat} (hn : 2 ≤ n) : pc_cnt (fun i => V i && decide (9 ≤ rk lv va T L i)) n ≤ 254 := by
  have V0 := gi_V0 h (i := 0) (by omega)
  have V1 := gi_V0 h (i := 1) (by omega)
  have c1 := pc_up (P := fun i => V i && decide (9 ≤ rk lv va T L i)) (Q := fu (fun i => V i && decide (9 ≤ rk lv va T L i)) 0 true) (k := 0) (n := n) (by omega) (fun j hj => fu_n hj) (by simp [V0]) (fu_s _ _ _)
  have c2 := pc_up (P := fu (fun i => V i && decide (9 ≤ rk lv va T L i)) 0 true) (Q := fu (fu (fun i => V i && decide (9 ≤ rk lv va T L i)) 0 true) 1 true) (k := 1) (n := n) (by omega) (fun j hj => fu_n hj) (by rw [fu_n (by omega)]; simp [V1]) (fu_s _ _ _)
  have hq : ∀ i, fu (fu (fun i => V i && decide (9 ≤ rk lv va T L i)) 0 true) 1 true i = true → vl V i ∧ 9 ≤ rk lv va T L i := fun i q => by
    by_cases e1 : i = 1
    · subst e1
      exact ⟨Or.inl (by omega), by rw [rk_f (gi_T0 h (by omega)), gi_end h (by omega), hp.2.2]; omega⟩
    · rw [fu_n e1] at q
      by_cases e0 : i = 0
      · subst e0
        exact ⟨Or.inl (by omega), by rw [rk_f (gi_T0 h (by omega)), gi_end h (by omega), hp.2.2]; omega⟩
      · rw [fu_n e0] at q
        simp at q
        exact ⟨Or.inr q.1, q.2⟩
  have hc : pc_cnt (fu (fu (fun i => V i && decide (9 ≤ rk lv va T L i)) 0 true) 1 true) n ≤ 256 := by
    refine pc_pigeon (fun i => tbc (fun m => dn i (fun x => m.testBit (lv x - 9))) 8) (fun j _ _ => tbc_lt 8 _) (fun i j _ _ qi qj e => ?_)
    obtain ⟨vi, ri⟩ := hq i qi
    obtain ⟨vj, rj⟩ := hq j qj
    refine h.2.2.2.1 i j vi vj (funext fun a => ?_)
    have hm : tbc (fun t => a (vr (9 + t))) 3 < 8 := tbc_lt 3 _
    have hb : ∀ x, x < 12 → 9 ≤ lv x → a x = (tbc (fun t => a (vr (9 + t))) 3).testBit (lv x - 9) := fun x hx h9 => by
      have hlt := lp_lt hp hx
      rw [tbc_bit 3 _ (lv x - 9) (by omega)]
      rw [show 9 + (lv x - 9) = lv x by omega, (hp.1 x (by omega)).2]
    rw [gi_same h hp vi (b := fun x => (tbc (fun t => a (vr (9 + t))) 3).testBit (lv x - 9)) (fun x hx hr => hb x hx (by omega)), gi_same h hp vj (a := a) (b := fun x => (tbc (fun t => a (vr (9 + t))) 3).testBit (lv x - 9)) (fun x hx hr => hb x hx (by omega))]
    exact tbc_inj e _ hm
  omega
/-- where a way from slot s stands when the levels below k have been asked -/
def gw (lv vr va lo hi sl : Nat → Nat) (a : Nat → Bool) (s : Nat) : Nat → Nat
  | 0 => sl s
  | k + 1 => if lv (va (gw lv vr va lo hi sl a s k)) = k then (if a (vr k) = true then hi (gw lv vr va lo hi sl a s k) else lo (gw lv vr va lo hi sl a s k)) else gw lv vr va lo hi sl a s k
theorem gw_cong {sl : Nat → Nat} {a b : Nat → Bool} {s : Nat} : ∀ {k : Nat}, (∀ j, j < k → a (vr j) = b (vr j)) → gw lv vr va lo hi sl a s k = gw lv vr va lo hi sl b s k
  | 0, _ => rfl
  | k + 1, h => by
    have e := gw_cong (sl := sl) (s := s) (k := k) (fun j hj => h j (by omega))
    show (if lv (va (gw lv vr va lo hi sl a s k)) = k then (if a (vr k) = true then hi (gw lv vr va lo hi sl a s k) else lo (gw lv vr va lo hi sl a s k)) else gw lv vr va lo hi sl a s k) = (if lv (va (gw lv vr va lo hi sl b s k)) = k then (if b (vr k) = true then hi (gw lv vr va lo hi sl b s k) else lo (gw lv vr va lo hi sl b s k)) else gw lv vr va lo hi sl b s k)
    rw [e, h k (by omega)]
theorem gw_stay {sl : Nat → Nat} {a : Nat → Bool} {s i k : Nat} (h : gw lv vr va lo hi sl a s k = i) : ∀ (d : Nat), k + d ≤ lv (va i) → gw lv vr va lo hi sl a s (k + d) = i
  | 0, _ => h
  | d + 1, hd => by
    have e := gw_stay h d (by omega)
    show (if lv (va (gw lv vr va lo hi sl a s (k + d))) = k + d then (if a (vr (k + d)) = true then hi (gw lv vr va lo hi sl a s (k + d)) else lo (gw lv vr va lo hi sl a s (k + d))) else gw lv vr va lo hi sl a s (k + d)) = i
    rw [e, if_neg (by omega)]
/-- every node to which something refers is met on a way from a slot -/
theorem gw_all (h : gi lv V (fun _ => false) L va lo hi dn) (hp : lp lv vr) {sl : Nat → Nat} (hr : ∀ i, V i = true → (∃ s, s < 32 ∧ sl s = i) ∨ (∃ j, V j = true ∧ (lo j = i ∨ hi j = i))) : ∀ (n i : Nat), V i = true → lv (va i) < n → ∃ (s : Nat) (a : Nat → Bool), s < 32 ∧ gw lv vr va lo hi sl a s (lv (va i)) = i := by
  intro n
  induction n with
  | zero => intro i _ q; omega
  | succ n ih =>
    intro i hv hn
    rcases hr i hv with ⟨s, hs, e⟩ | ⟨j, hj, e⟩
    · refine ⟨s, fun _ => false, hs, ?_⟩
      have := gw_stay (lv := lv) (vr := vr) (va := va) (lo := lo) (hi := hi) (sl := sl) (a := fun _ => false) (s := s) (i := i) (k := 0) e (lv (va i)) (by omega)
      rw [Nat.zero_add] at this
      exact this
    · have ho := h.2.2.2.2.1 j hj rfl
      rw [rk_f rfl, rk_f rfl] at ho
      have jlt := lp_lt hp (h.1 j hj).2.1
      have key : ∀ b : Bool, (if b = true then hi j else lo j) = i → ∃ (s : Nat) (a : Nat → Bool), s < 32 ∧ gw lv vr va lo hi sl a s (lv (va i)) = i := by
        intro b hb
        have hlt : lv (va j) < lv (va i) := by
          cases b
          · rw [if_neg (by simp)] at hb; rw [hb] at ho; exact ho.1
          · rw [if_pos rfl] at hb; rw [hb] at ho; exact ho.2
        obtain ⟨s, a, hs, e1⟩ := ih j hj (by omega)
        refine ⟨s, bs a (vr (lv (va j))) b, hs, ?_⟩
        have e2 : gw lv vr va lo hi sl (bs a (vr (lv (va j))) b) s (lv (va j)) = j := by
          refine (gw_cong (b := a) (fun t ht => ?_)).trans e1
          refine bs_n (fun q => ?_)
          have q1 := (hp.2.1 t (by omega)).2
          rw [q, (hp.2.1 (lv (va j)) (by omega)).2] at q1
          omega
        have e3 : gw lv vr va lo hi sl (bs a (vr (lv (va j))) b) s (lv (va j) + 1) = i := by
          show (if lv (va (gw lv vr va lo hi sl (bs a (vr (lv (va j))) b) s (lv (va j)))) = lv (va j) then (if bs a (vr (lv (va j))) b (vr (lv (va j))) = true then hi (gw lv vr va lo hi sl (bs a (vr (lv (va j))) b) s (lv (va j))) else lo (gw lv vr va lo hi sl (bs a (vr (lv (va j))) b) s (lv (va j)))) else gw lv vr va lo hi sl (bs a (vr (lv (va j))) b) s (lv (va j))) = i
          rw [e2, if_pos rfl, bs_s]
          exact hb
        have := gw_stay e3 (lv (va i) - (lv (va j) + 1)) (by omega)
        rw [show lv (va j) + 1 + (lv (va i) - (lv (va j) + 1)) = lv (va i) by omega] at this
        exact this
      rcases e with e | e
      · exact key false (by simpa using e)
      · exact key true (by simpa using e)
theorem gi_level (h : gi lv V (fun _ => false) L va lo hi dn) (hp : lp lv vr) {sl : Nat → Nat} (hr : ∀ i, V i = true → (∃ s, s < 32 ∧ sl s = i) ∨ (∃ j, V j = true ∧ (lo j = i ∨ hi j = i))) (n k : Nat) : pc_cnt (fun i => V i && lv (va i) == k) n ≤ 32 * 2 ^ k := by
  refine pc_hit (fun q => gw lv vr va lo hi sl (fun x => (q / 32).testBit (lv x)) (q % 32) k) (fun i _ q => ?_)
  simp at q
  obtain ⟨qv, qk⟩ := q
  obtain ⟨s, a, hs, e⟩ := gw_all h hp hr (lv (va i) + 1) i qv (by omega)
  have hk : k < 12 := by rw [← qk]; exact lp_lt hp (h.1 i qv).2.1
  rw [qk] at e
  have hm := tbc_lt k (fun j => a (vr j))
  refine ⟨32 * tbc (fun j => a (vr j)) k + s, ?_, ?_⟩
  · have : tbc (fun j => a (vr j)) k + 1 ≤ 2 ^ k := hm
    omega
  · show gw lv vr va lo hi sl (fun x => ((32 * tbc (fun j => a (vr j)) k + s) / 32).testBit (lv x)) ((32 * tbc (fun j => a (vr j)) k + s) % 32) k = i
    rw [show (32 * tbc (fun j => a (vr j)) k + s) / 32 = tbc (fun j => a (vr j)) k by omega, show (32 * tbc (fun j => a (vr j)) k + s) % 32 = s by omega, ← e]
    refine gw_cong (fun j hj => ?_)
    show (tbc (fun j => a (vr j)) k).testBit (lv (vr j)) = a (vr j)
    rw [(hp.2.1 j (by omega)).2, tbc_bit k _ j hj]
/-- all together: 32 * 511 + 254 -/
theorem gi_size (h : gi lv V (fun _ => false) L va lo hi dn) (hp : lp lv vr) {sl : Nat → Nat} (hr : ∀ i, V i = true → (∃ s, s < 32 ∧ sl s = i) ∨ (∃ j, V j = true ∧ (lo j = i ∨ hi j = i))) {n : Nat} (hn : 2 ≤ n) : pc_cnt V n ≤ 16606 := by
  have h1 := pc_split V (fun i => decide (lv (va i) < 9)) n
  have h2 := pc_levels (P := V) (g := fun i => lv (va i)) (n := n) (m := 9) (fun k _ => gi_level h hp hr n k)
  have h3 := gi_bot h hp hn
  have h4 : pc_cnt (fun i => V i && !decide (lv (va i) < 9)) n = pc_cnt (fun i => V i && decide (9 ≤ rk lv va (fun _ => false) L i)) n := pc_congr (fun i _ => by
    rw [rk_f rfl]
    cases V i
    · rfl
    · simp only [Bool.true_and]
      rw [Bool.eq_iff_iff]
      simp)
  rw [h4] at h1
  omega
end
end
section
/-! JAVA, 1: the class's own methods as functions of what its cells hold. N 0: room, used, free, size, limit, rewritten; N 1: rows; N 2: heads; N 3: held; N 4: levels; N 5: variables. The array rows has 5 * room places (room is never above 24800). -/
abbrev Mm : Type := Nat → Nat → Int32
def up (N : Mm) (k j : Nat) (x : Int32) : Mm := fu N k (upd (N k) j x)
def jlen (N : Mm) : Nat := 5 * min (N 0 0).toNatClampNeg 24800
theorem jlen_lt (N : Mm) : jlen N < 2 ^ 31 := by unfold jlen; omega
def j_get (N : Mm) (node field : Int32) : Int32 := if node * 5 + field < 0 then 0 else if nI (jlen N) ≤ node * 5 + field then 0 else N 1 (node * 5 + field).toNatClampNeg
def j_set (N : Mm) (node field x : Int32) : Mm := if node * 5 + field < 0 then N else if nI (jlen N) ≤ node * 5 + field then N else up N 1 (node * 5 + field).toNatClampNeg x
def j_lowFor (N : Mm) (node v : Int32) : Int32 := if j_get N node 0 = v then j_get N node 1 else node
def j_highFor (N : Mm) (node v : Int32) : Int32 := if j_get N node 0 = v then j_get N node 2 else node
def j_levelOf (N : Mm) (v : Int32) : Int32 := if v < 0 then 12 else if nI 13 ≤ v then 12 else N 4 v.toNatClampNeg
def j_variableAt (N : Mm) (k : Int32) : Int32 := if k < 0 then 12 else if nI 13 ≤ k then 12 else N 5 k.toNatClampNeg
def j_heldFor (N : Mm) (v : Int32) : Int32 := if v < 0 then 0 else if nI 12 ≤ v then 0 else N 3 v.toNatClampNeg
def j_min (a b : Int32) : Int32 := if b < a then b else a
def j_max (a b : Int32) : Int32 := if a < b then b else a
def j_firstAsked (N : Mm) (f g h : Int32) : Int32 := j_variableAt N (j_min (j_min (j_levelOf N (j_get N f 0)) (j_levelOf N (j_get N g 0))) (j_levelOf N (j_get N h 0)))
/-- the loop of truthFor, n steps at most -/
def j_truthL (N : Mm) (way : Int32) : Nat → Int32 → Int32
  | 0, node => node
  | n + 1, node => if node ≤ 1 then node else j_truthL N way n (j_get N node (if (way >>> (j_get N node 0 &&& 31)) &&& 1 = 0 then 1 else 2))
def j_truthFor (N : Mm) (node way : Int32) : Int32 := if j_truthL N way 12 node = 1 then 1 else 0
def j_followL (N : Mm) (known way : Int32) : Nat → Int32 → Int32
  | 0, node => node
  | n + 1, node => if (known >>> (j_get N node 0 &&& 31)) &&& 1 = 0 then node else j_followL N known way n (j_get N node (if (way >>> (j_get N node 0 &&& 31)) &&& 1 = 0 then 1 else 2))
def j_followed (N : Mm) (node known way : Int32) : Int32 := j_followL N known way 12 node
def j_refer (N : Mm) (node d : Int32) : Mm := j_set N node 4 (j_get N node 4 + d)
def j_chainFor (v low high : Int32) : Int32 := v * 64 + ((((low * (-1640531535) + high * (-2048144789)).toUInt32 >>> ((20 : Int32).toUInt32 &&& Int32.toUInt32 31)).toInt32) &&& 63)
def j_findL (N : Mm) (low high : Int32) : Nat → Int32 → Int32
  | 0, _ => 0
  | n + 1, node => if node = 0 then 0 else if j_get N node 1 = low then (if j_get N node 2 = high then node else j_findL N low high n (j_get N node 3)) else j_findL N low high n (j_get N node 3)
def j_freshRow (N : Mm) : Mm × Int32 :=
  if N 0 2 = 0 then (if N 0 1 < N 0 0 then (up (j_set (up N 0 1 (N 0 1 + 1)) (N 0 1) 4 0) 0 3 (N 0 3 + 1), N 0 1) else (N, 0))
  else (up (j_set (up N 0 2 (j_get N (N 0 2) 3)) (N 0 2) 4 0) 0 3 (N 0 3 + 1), N 0 2)
def j_giveBack (N : Mm) (row : Int32) : Mm := up (up (j_set N row 3 (N 0 2)) 0 2 row) 0 3 (N 0 3 - 1)
def j_link (N : Mm) (node v low high : Int32) : Mm :=
  if v < 0 then N else if nI 12 ≤ v then N else if j_chainFor v low high < 0 then N else if nI 768 ≤ j_chainFor v low high then N else
  up (up (j_set (j_set (j_set (j_set N node 0 v) node 1 low) node 2 high) node 3 (N 2 (j_chainFor v low high).toNatClampNeg)) 2 (j_chainFor v low high).toNatClampNeg node) 3 v.toNatClampNeg (N 3 v.toNatClampNeg + 1)
def j_fresh2 (N : Mm) (v low high : Int32) : Mm × Int32 :=
  if (j_freshRow N).2 = 0 then ((j_freshRow N).1, 0) else (j_link (j_refer (j_refer (j_freshRow N).1 low 1) high 1) (j_freshRow N).2 v low high, (j_freshRow N).2)
def j_make (N : Mm) (v low high : Int32) : Mm × Int32 :=
  if low = high then (N, low) else if j_chainFor v low high < 0 then (N, 0) else if nI 768 ≤ j_chainFor v low high then (N, 0) else
  if j_findL N low high 24800 (N 2 (j_chainFor v low high).toNatClampNeg) = 0 then j_fresh2 N v low high else (N, j_findL N low high 24800 (N 2 (j_chainFor v low high).toNatClampNeg))
def j_unlinkL (N : Mm) (node : Int32) : Nat → Int32 → Mm
  | 0, _ => N
  | n + 1, at1 => if at1 = 0 then N else if j_get N at1 3 = node then j_set N at1 3 (j_get N node 3) else j_unlinkL N node n (j_get N at1 3)
def j_unlink2 (N : Mm) (node c : Int32) : Mm := if N 2 c.toNatClampNeg = node then up N 2 c.toNatClampNeg (j_get N node 3) else j_unlinkL N node 24800 (N 2 c.toNatClampNeg)
def j_unlink (N : Mm) (node : Int32) : Mm :=
  if j_get N node 0 < 0 then N else if nI 12 ≤ j_get N node 0 then N else if j_chainFor (j_get N node 0) (j_get N node 1) (j_get N node 2) < 0 then N else if nI 768 ≤ j_chainFor (j_get N node 0) (j_get N node 1) (j_get N node 2) then N else
  j_unlink2 (up N 3 (j_get N node 0).toNatClampNeg (N 3 (j_get N node 0).toNatClampNeg - 1)) node (j_chainFor (j_get N node 0) (j_get N node 1) (j_get N node 2))
def j_dropHeld (N : Mm) (v : Int32) : Mm := if v < 0 then N else if nI 12 ≤ v then N else up N 3 v.toNatClampNeg (N 3 v.toNatClampNeg - 1)
def j_dropKids (N : Mm) (node : Int32) : Mm := j_refer (j_refer N (j_get N node 1) (-1)) (j_get (j_refer N (j_get N node 1) (-1)) node 2) (-1)
def j_drop (N : Mm) (node : Int32) : Mm := j_giveBack (j_dropKids (j_dropHeld N (j_get N node 0)) node) node
def j_neededL : Nat → Mm → Int32 → Int32 → Mm × Int32
  | 0, N, kept, _ => (N, kept)
  | n + 1, N, kept, node => if node = 0 then (N, kept) else if 0 < j_get N node 4 then j_neededL n (j_set N node 3 kept) node (j_get N node 3) else j_neededL n (j_drop N node) kept (j_get N node 3)
def j_needed (N : Mm) (chain : Int32) : Mm × Int32 := j_neededL 24800 N 0 chain
/-- the chains from head on, n of them -/
def j_collectH : Nat → Mm → Int32 → Mm
  | 0, N, _ => N
  | n + 1, N, head => j_collectH n (if head < 0 then N else if nI 768 ≤ head then N else up (j_needed N (N 2 head.toNatClampNeg)).1 2 head.toNatClampNeg (j_needed N (N 2 head.toNatClampNeg)).2) (head + 1)
/-- the levels from k on, n of them -/
def j_collectL : Nat → Mm → Int32 → Mm
  | 0, N, _ => N
  | n + 1, N, k => j_collectL n (j_collectH 64 N (j_variableAt N k * 64)) (k + 1)
def j_collect (N : Mm) : Mm := j_collectL 12 N 0
def j_wroom (N : Mm) (wanted : Int32) : Int32 := j_min (j_max (j_min (wanted + 2) 24800) (2 * N 0 0)) 24800
def j_widen (N : Mm) (wanted : Int32) : Mm :=
  if j_min (wanted + 2) 24800 ≤ N 0 0 then N else fu (up N 0 0 (j_wroom N wanted)) 1 (va_cpy (N 1) (fun _ => 0) 0 0 (jlen N))
def j_makeRoom (N : Mm) (need : Int32) : Mm :=
  if N 0 3 ≤ N 0 4 then j_widen N (N 0 3 + need) else
  j_widen (up (j_collect N) 0 4 (j_min (j_max (2 * j_collect N 0 3) 1024) 21475)) (j_collect N 0 3 + need)
def j_detachC (lower : Int32) (upper : Nat) : Nat → Mm → Int32 → Int32 → Int32 → Mm × Int32 × Int32
  | 0, N, taken, kept, _ => (N, taken, kept)
  | n + 1, N, taken, kept, node => if node = 0 then (N, taken, kept) else
    if j_get N (j_get N node 1) 0 = lower ∨ j_get N (j_get N node 2) 0 = lower then j_detachC lower upper n (up (j_set N node 3 taken) 3 upper (N 3 upper - 1)) node kept (j_get N node 3)
    else j_detachC lower upper n (j_set N node 3 kept) taken node (j_get N node 3)
def j_detachH (lower upper : Int32) : Nat → Mm → Int32 → Int32 → Mm × Int32
  | 0, N, taken, _ => (N, taken)
  | n + 1, N, taken, head => if head < 0 then (N, taken) else if nI 768 ≤ head then (N, taken) else if upper < 0 then (N, taken) else if nI 12 ≤ upper then (N, taken) else
    j_detachH lower upper n (up (j_detachC lower upper.toNatClampNeg 24800 N taken 0 (N 2 head.toNatClampNeg)).1 2 head.toNatClampNeg (j_detachC lower upper.toNatClampNeg 24800 N taken 0 (N 2 head.toNatClampNeg)).2.2) (j_detachC lower upper.toNatClampNeg 24800 N taken 0 (N 2 head.toNatClampNeg)).2.1 (head + 1)
def j_detach (N : Mm) (upper lower : Int32) : Mm × Int32 := j_detachH lower upper 64 N 0 (upper * 64)
def j_release (N : Mm) (node : Int32) : Mm :=
  if node ≤ 1 then j_refer N node (-1) else if 0 < j_get (j_refer N node (-1)) node 4 then j_refer N node (-1) else
  j_giveBack (j_dropKids (j_unlink (j_refer N node (-1)) node) node) node
def j_rewrite2 (N : Mm) (node lower low high oldLow oldHigh : Int32) : Mm :=
  j_release (j_release (j_link (j_refer (j_refer N low 1) high 1) node lower low high) oldLow) oldHigh
def j_rewrite1 (M1 M2 : Mm × Int32) (node lower oldLow oldHigh : Int32) : Mm := j_rewrite2 M2.1 node lower M1.2 M2.2 oldLow oldHigh
def j_rewriteA (N : Mm) (node upper lower : Int32) : Mm × Int32 := j_make N upper (j_lowFor N (j_get N node 1) lower) (j_lowFor N (j_get N node 2) lower)
def j_rewriteB (N M : Mm) (node upper lower : Int32) : Mm × Int32 := j_make M upper (j_highFor M (j_get N node 1) lower) (j_highFor M (j_get N node 2) lower)
def j_rewrite (N : Mm) (node upper lower : Int32) : Mm :=
  up (j_rewrite1 (j_rewriteA N node upper lower) (j_rewriteB N (j_rewriteA N node upper lower).1 node upper lower) node lower (j_get N node 1) (j_get N node 2)) 0 5
    (j_rewrite1 (j_rewriteA N node upper lower) (j_rewriteB N (j_rewriteA N node upper lower).1 node upper lower) node lower (j_get N node 1) (j_get N node 2) 0 5 + 1)
def j_swapL (upper lower : Int32) : Nat → Mm → Int32 → Mm
  | 0, N, _ => N
  | n + 1, N, node => if node = 0 then N else j_swapL upper lower n (j_rewrite N node upper lower) (j_get N node 3)
def j_swap3 (N : Mm) (upper lower : Int32) : Mm := j_swapL upper lower 24800 (j_detach N upper lower).1 (j_detach N upper lower).2
def j_swap2 (N : Mm) (upper lower : Int32) : Mm := if j_heldFor N upper = 0 then N else if j_heldFor N lower = 0 then N else j_swap3 (j_widen N (N 0 3 + 2 * j_heldFor N upper)) upper lower
def j_swap1 (N : Mm) (k upper lower : Int32) : Mm := up (up (up (up N 5 k.toNatClampNeg lower) 5 (k + 1).toNatClampNeg upper) 4 lower.toNatClampNeg k) 4 upper.toNatClampNeg (k + 1)
def j_swap (N : Mm) (k : Int32) : Mm :=
  if k < 0 then N else if 12 ≤ k + 1 then N else if nI 13 ≤ k + 1 then N else
  if N 5 k.toNatClampNeg < 0 then N else if nI 13 ≤ N 5 k.toNatClampNeg then N else if N 5 (k + 1).toNatClampNeg < 0 then N else if nI 13 ≤ N 5 (k + 1).toNatClampNeg then N else
  j_swap2 (j_swap1 N k (N 5 k.toNatClampNeg) (N 5 (k + 1).toNatClampNeg)) (N 5 k.toNatClampNeg) (N 5 (k + 1).toNatClampNeg)
def j_isMisplaced (N : Mm) (node head : Int32) : Int32 :=
  if j_get N node 1 = j_get N node 2 then 1 else
  if j_min (j_levelOf N (j_get N (j_get N node 1) 0)) (j_levelOf N (j_get N (j_get N node 2) 0)) ≤ j_levelOf N (j_get N node 0) then 1 else
  if j_chainFor (j_get N node 0) (j_get N node 1) (j_get N node 2) = head then 0 else 1
def j_twiceL (N : Mm) (node : Int32) : Nat → Int32 → Int32
  | 0, _ => 0
  | n + 1, at1 => if at1 = 0 then 0 else if j_get N at1 1 = j_get N node 1 then (if j_get N at1 2 = j_get N node 2 then 1 else j_twiceL N node n (j_get N at1 3)) else j_twiceL N node n (j_get N at1 3)
def j_isThereTwice (N : Mm) (node : Int32) : Int32 := j_twiceL N node 24800 (j_get N node 3)
def j_faultsC (N : Mm) (head : Int32) : Nat → Int32 → Int32 → Int32
  | 0, found, _ => found
  | n + 1, found, node => if node = 0 then found else j_faultsC N head n (if j_isMisplaced N node head = 0 then (if j_isThereTwice N node = 0 then found else found + 1) else found + 1) (j_get N node 3)
def j_faultsH (N : Mm) : Nat → Int32 → Int32 → Int32
  | 0, _, found => found
  | n + 1, head, found => j_faultsH N n (head + 1) (j_faultsC N head 24800 found (N 2 head.toNatClampNeg))
def j_faults (N : Mm) : Int32 := j_faultsH N 768 0 0
end
section
/-! MEMORY: N holds the numbers A. A 0 .. A 4: what a node asks, low, high, next, references; A 5: heads; A 6: held; A 7: levels; A 8: variables; A 9: room, used, free, size, limit. -/
abbrev Am : Type := Nat → Nat → Nat
def am (A : Am) (k j x : Nat) : Am := fu A k (fu (A k) j x)
theorem am_s (A : Am) (k j x : Nat) : am A k j x k = fu (A k) j x := fu_s _ _ _
theorem am_n {A : Am} {k j x k' : Nat} (h : k' ≠ k) : am A k j x k' = A k' := fu_n h
theorem up_s (N : Mm) (k j : Nat) (x : Int32) : up N k j x k = upd (N k) j x := fu_s _ _ _
theorem up_n {N : Mm} {k j : Nat} {x : Int32} {k' : Nat} (h : k' ≠ k) : up N k j x k' = N k' := fu_n h
theorem upd_s (f : Nat → Int32) (k : Nat) (x : Int32) : upd f k x k = x := if_pos rfl
theorem upd_n {f : Nat → Int32} {k j : Nat} {x : Int32} (h : j ≠ k) : upd f k x j = f j := if_neg h
def mr (N : Mm) (A : Am) : Prop :=
  (∀ j, j < 5 → N 0 j = nI (A 9 j)) ∧
  (∀ f, f < 5 → ∀ i, i < A 9 0 → (f = 4 → 2 ≤ i) → N 1 (5 * i + f) = nI (A f i)) ∧
  (∀ c, c < 768 → N 2 c = nI (A 5 c)) ∧ (∀ v, v < 12 → N 3 v = nI (A 6 v)) ∧ (∀ v, v < 13 → N 4 v = nI (A 7 v)) ∧ (∀ k, k < 13 → N 5 k = nI (A 8 k)) ∧
  1024 ≤ A 9 0 ∧ A 9 0 ≤ 24800
theorem mr_len {N : Mm} {A : Am} (h : mr N A) : jlen N = 5 * A 9 0 := by
  have := h.2.2.2.2.2.2.2
  unfold jlen
  rw [h.1 0 (by omega), nI_clamp (by omega), Nat.min_eq_left this]
theorem mr_at {i f : Nat} : nI i * 5 + nI f = nI (5 * i + f) := by
  rw [show (5 : Int32) = nI 5 from rfl, pk_mul, nI_add, Nat.mul_comm]
theorem mr_get0 {N : Mm} {A : Am} (h : mr N A) {i f : Nat} (hi : i < A 9 0) (hf : f < 5) : j_get N (nI i) (nI f) = N 1 (5 * i + f) := by
  have hR := h.2.2.2.2.2.2.2
  unfold j_get
  rw [mr_at, if_neg (nI_pos (by omega)), mr_len h, if_neg (nI_ge (by omega) (by omega)), nI_clamp (by omega)]
theorem mr_get {N : Mm} {A : Am} (h : mr N A) {i f : Nat} (hi : i < A 9 0) (hf : f < 5) (h2 : f = 4 → 2 ≤ i) : j_get N (nI i) (nI f) = nI (A f i) := by
  rw [mr_get0 h hi hf, h.2.1 f hf i hi h2]
theorem mr_set0 {N : Mm} {A : Am} (h : mr N A) {i f : Nat} (hi : i < A 9 0) (hf : f < 5) (x : Int32) : j_set N (nI i) (nI f) x = up N 1 (5 * i + f) x := by
  have hR := h.2.2.2.2.2.2.2
  unfold j_set
  rw [mr_at, if_neg (nI_pos (by omega)), mr_len h, if_neg (nI_ge (by omega) (by omega)), nI_clamp (by omega)]
theorem mr_set {N : Mm} {A : Am} (h : mr N A) {i f : Nat} (hi : i < A 9 0) (hf : f < 5) (x : Nat) : mr (j_set N (nI i) (nI f) (nI x)) (am A f i x) := by
  rw [mr_set0 h hi hf]
  have e9 : am A f i x 9 = A 9 := am_n (by omega)
  refine ⟨fun j hj => ?_, fun g hg k hk h2 => ?_, fun c hc => ?_, fun v hv => ?_, fun v hv => ?_, fun k hk => ?_, ?_, ?_⟩
  · rw [up_n (by omega), e9]; exact h.1 j hj
  · rw [e9] at hk
    rw [up_s]
    by_cases e : 5 * k + g = 5 * i + f
    · have e1 : k = i := by omega
      have e2 : g = f := by omega
      subst e1; subst e2
      rw [upd_s, am_s, fu_s]
    · rw [upd_n e, h.2.1 g hg k hk h2]
      by_cases e2 : g = f
      · subst e2
        rw [am_s, fu_n (fun q => e (by rw [q]))]
      · rw [am_n e2]
  · rw [up_n (by omega), am_n (by omega)]; exact h.2.2.1 c hc
  · rw [up_n (by omega), am_n (by omega)]; exact h.2.2.2.1 v hv
  · rw [up_n (by omega), am_n (by omega)]; exact h.2.2.2.2.1 v hv
  · rw [up_n (by omega), am_n (by omega)]; exact h.2.2.2.2.2.1 k hk
  · rw [e9]; exact h.2.2.2.2.2.2.1
  · rw [e9]; exact h.2.2.2.2.2.2.2
/-- the references of the ends are not kept -/
theorem mr_setE {N : Mm} {A : Am} (h : mr N A) {i : Nat} (hi : i ≤ 1) (x : Int32) : mr (j_set N (nI i) 4 x) A := by
  have hR := h.2.2.2.2.2.2.1
  rw [show (4 : Int32) = nI 4 from rfl, mr_set0 h (by omega) (by omega)]
  refine ⟨fun j hj => ?_, fun g hg k hk h2 => ?_, fun c hc => ?_, fun v hv => ?_, fun v hv => ?_, fun k hk => ?_, h.2.2.2.2.2.2.1, h.2.2.2.2.2.2.2⟩
  · rw [up_n (by omega)]; exact h.1 j hj
  · rw [up_s, upd_n (by omega)]; exact h.2.1 g hg k hk h2
  · rw [up_n (by omega)]; exact h.2.2.1 c hc
  · rw [up_n (by omega)]; exact h.2.2.2.1 v hv
  · rw [up_n (by omega)]; exact h.2.2.2.2.1 v hv
  · rw [up_n (by omega)]; exact h.2.2.2.2.2.1 k hk
/-- a field of the object, but not its room -/
theorem mr_fld {N : Mm} {A : Am} (h : mr N A) {j : Nat} (hj : j < 5) (h0 : j ≠ 0) (x : Nat) : mr (up N 0 j (nI x)) (am A 9 j x) := by
  have e0 : am A 9 j x 9 0 = A 9 0 := by rw [am_s, fu_n (fun q => h0 q.symm)]
  refine ⟨fun k hk => ?_, fun g hg k hk h2 => ?_, fun c hc => ?_, fun v hv => ?_, fun v hv => ?_, fun k hk => ?_, ?_, ?_⟩
  · rw [up_s, am_s]
    by_cases e : k = j
    · subst e; rw [upd_s, fu_s]
    · rw [upd_n e, fu_n e]; exact h.1 k hk
  · rw [e0] at hk
    rw [up_n (by omega), am_n (by omega)]; exact h.2.1 g hg k hk h2
  · rw [up_n (by omega), am_n (by omega)]; exact h.2.2.1 c hc
  · rw [up_n (by omega), am_n (by omega)]; exact h.2.2.2.1 v hv
  · rw [up_n (by omega), am_n (by omega)]; exact h.2.2.2.2.1 v hv
  · rw [up_n (by omega), am_n (by omega)]; exact h.2.2.2.2.2.1 k hk
  · rw [e0]; exact h.2.2.2.2.2.2.1
  · rw [e0]; exact h.2.2.2.2.2.2.2
/-- the number of nodes written anew is nobody's -/
theorem mr_rew {N : Mm} {A : Am} (h : mr N A) (x : Int32) : mr (up N 0 5 x) A := by
  refine ⟨fun k hk => ?_, fun g hg k hk h2 => ?_, fun c hc => ?_, fun v hv => ?_, fun v hv => ?_, fun k hk => ?_, h.2.2.2.2.2.2.1, h.2.2.2.2.2.2.2⟩
  · rw [up_s, upd_n (by omega)]; exact h.1 k hk
  · rw [up_n (by omega)]; exact h.2.1 g hg k hk h2
  · rw [up_n (by omega)]; exact h.2.2.1 c hc
  · rw [up_n (by omega)]; exact h.2.2.2.1 v hv
  · rw [up_n (by omega)]; exact h.2.2.2.2.1 v hv
  · rw [up_n (by omega)]; exact h.2.2.2.2.2.1 k hk
theorem mr_head {N : Mm} {A : Am} (h : mr N A) {j : Nat} (x : Nat) : mr (up N 2 j (nI x)) (am A 5 j x) := by
  have e9 : am A 5 j x 9 = A 9 := am_n (by omega)
  refine ⟨fun k hk => ?_, fun g hg k hk h2 => ?_, fun c hc => ?_, fun v hv => ?_, fun v hv => ?_, fun k hk => ?_, ?_, ?_⟩
  · rw [up_n (by omega), e9]; exact h.1 k hk
  · rw [e9] at hk
    rw [up_n (by omega), am_n (by omega)]; exact h.2.1 g hg k hk h2
  · rw [up_s, am_s]
    by_cases e : c = j
    · subst e; rw [upd_s, fu_s]
    · rw [upd_n e, fu_n e]; exact h.2.2.1 c hc
  · rw [up_n (by omega), am_n (by omega)]; exact h.2.2.2.1 v hv
  · rw [up_n (by omega), am_n (by omega)]; exact h.2.2.2.2.1 v hv
  · rw [up_n (by omega), am_n (by omega)]; exact h.2.2.2.2.2.1 k hk
  · rw [e9]; exact h.2.2.2.2.2.2.1
  · rw [e9]; exact h.2.2.2.2.2.2.2
theorem mr_held {N : Mm} {A : Am} (h : mr N A) {j : Nat} (x : Nat) : mr (up N 3 j (nI x)) (am A 6 j x) := by
  have e9 : am A 6 j x 9 = A 9 := am_n (by omega)
  refine ⟨fun k hk => ?_, fun g hg k hk h2 => ?_, fun c hc => ?_, fun v hv => ?_, fun v hv => ?_, fun k hk => ?_, ?_, ?_⟩
  · rw [up_n (by omega), e9]; exact h.1 k hk
  · rw [e9] at hk
    rw [up_n (by omega), am_n (by omega)]; exact h.2.1 g hg k hk h2
  · rw [up_n (by omega), am_n (by omega)]; exact h.2.2.1 c hc
  · rw [up_s, am_s]
    by_cases e : v = j
    · subst e; rw [upd_s, fu_s]
    · rw [upd_n e, fu_n e]; exact h.2.2.2.1 v hv
  · rw [up_n (by omega), am_n (by omega)]; exact h.2.2.2.2.1 v hv
  · rw [up_n (by omega), am_n (by omega)]; exact h.2.2.2.2.2.1 k hk
  · rw [e9]; exact h.2.2.2.2.2.2.1
  · rw [e9]; exact h.2.2.2.2.2.2.2
theorem mr_levs {N : Mm} {A : Am} (h : mr N A) {j : Nat} (x : Nat) : mr (up N 4 j (nI x)) (am A 7 j x) := by
  have e9 : am A 7 j x 9 = A 9 := am_n (by omega)
  refine ⟨fun k hk => ?_, fun g hg k hk h2 => ?_, fun c hc => ?_, fun v hv => ?_, fun v hv => ?_, fun k hk => ?_, ?_, ?_⟩
  · rw [up_n (by omega), e9]; exact h.1 k hk
  · rw [e9] at hk
    rw [up_n (by omega), am_n (by omega)]; exact h.2.1 g hg k hk h2
  · rw [up_n (by omega), am_n (by omega)]; exact h.2.2.1 c hc
  · rw [up_n (by omega), am_n (by omega)]; exact h.2.2.2.1 v hv
  · rw [up_s, am_s]
    by_cases e : v = j
    · subst e; rw [upd_s, fu_s]
    · rw [upd_n e, fu_n e]; exact h.2.2.2.2.1 v hv
  · rw [up_n (by omega), am_n (by omega)]; exact h.2.2.2.2.2.1 k hk
  · rw [e9]; exact h.2.2.2.2.2.2.1
  · rw [e9]; exact h.2.2.2.2.2.2.2
theorem mr_vars {N : Mm} {A : Am} (h : mr N A) {j : Nat} (x : Nat) : mr (up N 5 j (nI x)) (am A 8 j x) := by
  have e9 : am A 8 j x 9 = A 9 := am_n (by omega)
  refine ⟨fun k hk => ?_, fun g hg k hk h2 => ?_, fun c hc => ?_, fun v hv => ?_, fun v hv => ?_, fun k hk => ?_, ?_, ?_⟩
  · rw [up_n (by omega), e9]; exact h.1 k hk
  · rw [e9] at hk
    rw [up_n (by omega), am_n (by omega)]; exact h.2.1 g hg k hk h2
  · rw [up_n (by omega), am_n (by omega)]; exact h.2.2.1 c hc
  · rw [up_n (by omega), am_n (by omega)]; exact h.2.2.2.1 v hv
  · rw [up_n (by omega), am_n (by omega)]; exact h.2.2.2.2.1 v hv
  · rw [up_s, am_s]
    by_cases e : k = j
    · subst e; rw [upd_s, fu_s]
    · rw [upd_n e, fu_n e]; exact h.2.2.2.2.2.1 k hk
  · rw [e9]; exact h.2.2.2.2.2.2.1
  · rw [e9]; exact h.2.2.2.2.2.2.2
theorem mr_lev {N : Mm} {A : Am} (h : mr N A) {v : Nat} (hv : v < 13) : j_levelOf N (nI v) = nI (A 7 v) := by
  unfold j_levelOf
  rw [if_neg (nI_pos (by omega)), if_neg (nI_ge (by omega) (by omega)), nI_clamp (by omega)]
  exact h.2.2.2.2.1 v hv
theorem mr_var {N : Mm} {A : Am} (h : mr N A) {v : Nat} (hv : v < 13) : j_variableAt N (nI v) = nI (A 8 v) := by
  unfold j_variableAt
  rw [if_neg (nI_pos (by omega)), if_neg (nI_ge (by omega) (by omega)), nI_clamp (by omega)]
  exact h.2.2.2.2.2.1 v hv
theorem mr_hef {N : Mm} {A : Am} (h : mr N A) {v : Nat} (hv : v < 12) : j_heldFor N (nI v) = nI (A 6 v) := by
  unfold j_heldFor
  rw [if_neg (nI_pos (by omega)), if_neg (nI_ge (by omega) (by omega)), nI_clamp (by omega)]
  exact h.2.2.2.1 v hv
end
section
/-! THE TABLE: what holds of the numbers A between two pieces of work. V: the nodes; T: those that wait (none but within a swap); ch: the chains; fl: the free rows; ext: who refers to a node from outside. -/
def hs (l h : Nat) : Nat := ((((nI l * (-1640531535) + nI h * (-2048144789)).toUInt32 >>> ((20 : Int32).toUInt32 &&& Int32.toUInt32 31)).toInt32) &&& 63).toNatClampNeg
def hc (v l h : Nat) : Nat := v * 64 + hs l h
theorem hs_e (l h : Nat) : hs l h < 64 ∧ ((((nI l * (-1640531535) + nI h * (-2048144789)).toUInt32 >>> ((20 : Int32).toUInt32 &&& Int32.toUInt32 31)).toInt32) &&& 63) = nI (hs l h) := by
  obtain ⟨j, hj, e⟩ := pk_andE ((((nI l * (-1640531535) + nI h * (-2048144789)).toUInt32 >>> ((20 : Int32).toUInt32 &&& Int32.toUInt32 31)).toInt32)) (m := 63) 6 (by decide)
  unfold hs
  rw [e, nI_clamp (by omega)]
  exact ⟨by omega, rfl⟩
theorem j_chain (v l h : Nat) : j_chainFor (nI v) (nI l) (nI h) = nI (hc v l h) := by
  unfold j_chainFor hc
  rw [(hs_e l h).2, show (64 : Int32) = nI 64 from rfl, pk_mul, nI_add]
theorem hc_lt {v l h : Nat} (hv : v < 12) : hc v l h < 768 := by
  have := (hs_e l h).1
  unfold hc; omega
theorem findL_spec {N : Mm} {A : Am} (hm : mr N A) {low high : Nat} (hlo : low < 2 ^ 31) (hhi : high < 2 ^ 31) : ∀ (n : Nat) (l : List Nat) (a : Nat), pl_lst (A 3) a l → l.length ≤ n → (∀ x ∈ l, x < A 9 0 ∧ A 1 x < 2 ^ 31 ∧ A 2 x < 2 ^ 31) →
    (j_findL N (nI low) (nI high) n (nI a) = 0 ∧ ∀ x ∈ l, ¬ (A 1 x = low ∧ A 2 x = high)) ∨ ∃ x, x ∈ l ∧ A 1 x = low ∧ A 2 x = high ∧ j_findL N (nI low) (nI high) n (nI a) = nI x := by
  have hR := hm.2.2.2.2.2.2.2
  intro n
  induction n with
  | zero =>
    intro l a hl hn hb
    cases l with
    | nil => exact Or.inl ⟨rfl, fun x hx => by cases hx⟩
    | cons x l => simp at hn
  | succ n ih =>
    intro l a hl hn hb
    cases l with
    | nil =>
      have ha : a = 0 := hl
      subst ha
      exact Or.inl ⟨by unfold j_findL; rw [nI_0, if_pos rfl], fun x hx => by cases hx⟩
    | cons x l =>
      obtain ⟨e, hx0, hl'⟩ := hl
      subst e
      obtain ⟨b1, b2, b3⟩ := hb a List.mem_cons_self
      have ih' := ih l (A 3 a) hl' (by simp at hn; omega) (fun y hy => hb y (List.mem_cons_of_mem _ hy))
      have g1 : j_get N (nI a) 1 = nI (A 1 a) := mr_get hm (f := 1) b1 (by omega) (by omega)
      have g2 : j_get N (nI a) 2 = nI (A 2 a) := mr_get hm (f := 2) b1 (by omega) (by omega)
      have g3 : j_get N (nI a) 3 = nI (A 3 a) := mr_get hm (f := 3) b1 (by omega) (by omega)
      have hstep : j_findL N (nI low) (nI high) (n + 1) (nI a) = if A 1 a = low ∧ A 2 a = high then nI a else j_findL N (nI low) (nI high) n (nI (A 3 a)) := by
        show (if nI a = 0 then 0 else if j_get N (nI a) 1 = nI low then (if j_get N (nI a) 2 = nI high then nI a else j_findL N (nI low) (nI high) n (j_get N (nI a) 3)) else j_findL N (nI low) (nI high) n (j_get N (nI a) 3)) = _
        rw [if_neg (nI_ne0 (by omega) (by omega)), g1, g2, g3]
        by_cases c1 : A 1 a = low
        · rw [if_pos ((nI_eq b2 hlo).mpr c1)]
          by_cases c2 : A 2 a = high
          · rw [if_pos ((nI_eq b3 hhi).mpr c2), if_pos ⟨c1, c2⟩]
          · rw [if_neg (fun q => c2 ((nI_eq b3 hhi).mp q)), if_neg (fun q => c2 q.2)]
        · rw [if_neg (fun q => c1 ((nI_eq b2 hlo).mp q)), if_neg (fun q => c1 q.1)]
      by_cases c : A 1 a = low ∧ A 2 a = high
      · exact Or.inr ⟨a, List.mem_cons_self, c.1, c.2, by rw [hstep, if_pos c]⟩
      · rcases ih' with ⟨e1, e2⟩ | ⟨y, y1, y2, y3, y4⟩
        · refine Or.inl ⟨by rw [hstep, if_neg c, e1], fun y hy => ?_⟩
          rcases List.mem_cons.mp hy with q | q
          · rw [q]; exact c
          · exact e2 y q
        · exact Or.inr ⟨y, List.mem_cons_of_mem _ y1, y2, y3, by rw [hstep, if_neg c, y4]⟩
def chs (A : Am) (V T : Nat → Bool) (ch : Nat → List Nat) : Prop := ∀ c, c < 768 → pl_lst (A 3) (A 5 c) (ch c) ∧ (ch c).Nodup ∧ ∀ i, i ∈ ch c ↔ (V i = true ∧ T i = false ∧ hc (A 0 i) (A 1 i) (A 2 i) = c)
def frs (A : Am) (V : Nat → Bool) (fl : List Nat) : Prop := pl_lst (A 3) (A 9 2) fl ∧ fl.Nodup ∧ ∀ i, i ∈ fl ↔ (2 ≤ i ∧ i < A 9 1 ∧ V i = false)
def oc (A : Am) (V : Nat → Bool) (i : Nat) : Nat := pc_cnt (fun j => V j && A 1 j == i) 24800 + pc_cnt (fun j => V j && A 2 j == i) 24800
def ti (A : Am) (V T : Nat → Bool) (L : Nat) (dn : Nat → Bf) (ch : Nat → List Nat) (fl : List Nat) (ext : Nat → Nat) : Prop :=
  lp (A 7) (A 8) ∧ gi (A 7) V T L (A 0) (A 1) (A 2) dn ∧ chs A V T ch ∧ frs A V fl ∧
  (∀ i, V i = true → i < A 9 1) ∧ (2 ≤ A 9 1 ∧ A 9 1 ≤ A 9 0 ∧ A 9 0 ≤ 24800) ∧ A 9 3 = pc_cnt V 24800 ∧
  (∀ i, V i = true → A 4 i = oc A V i + ext i) ∧
  (∀ v, v < 12 → A 6 v = pc_cnt (fun j => V j && (!T j && A 0 j == v)) 24800) ∧
  (∀ i, 2 ≤ i → V i = false → ext i = 0)
theorem ti_lt {A : Am} {V T : Nat → Bool} {L : Nat} {dn : Nat → Bf} {ch : Nat → List Nat} {fl : List Nat} {ext : Nat → Nat} (h : ti A V T L dn ch fl ext) {i : Nat} (hv : vl V i) : i < A 9 1 ∧ i < A 9 0 := by
  obtain ⟨-, -, -, -, h5, h6, -⟩ := h
  rcases hv with q | q
  · omega
  · have := h5 i q; omega
/-- if there is room, there is a row -/
theorem ti_row {A : Am} {V T : Nat → Bool} {L : Nat} {dn : Nat → Bf} {ch : Nat → List Nat} {fl : List Nat} {ext : Nat → Nat} (h : ti A V T L dn ch fl ext) (hr : A 9 3 + 2 < A 9 0) (hf : fl = []) : A 9 1 < A 9 0 := by
  obtain ⟨-, -, -, ⟨-, -, hfl⟩, h5, h6, h7, -⟩ := h
  have hall : ∀ x ∈ List.range' 2 (A 9 1 - 2), x < 24800 ∧ V x = true := fun x hx => by
    rw [List.mem_range'_1] at hx
    refine ⟨by omega, ?_⟩
    cases e : V x
    · have := (hfl x).mpr ⟨by omega, by omega, e⟩
      rw [hf] at this
      cases this
    · rfl
  have := pc_list (List.nodup_range' (s := 2) (n := A 9 1 - 2)) hall
  rw [List.length_range'] at this
  omega
end
section
/-! ROWS: a fresh row, references, a node put into its chain, as they change the numbers A. -/
section
variable {N : Mm} {A : Am} {V T : Nat → Bool} {L : Nat} {dn : Nat → Bf} {ch : Nat → List Nat} {fl : List Nat} {ext : Nat → Nat}
theorem fresh_spec (hm : mr N A) (h : ti A V T L dn ch fl ext) (hr : A 9 3 + 2 < A 9 0) : ∃ (k : Nat) (A1 : Am) (fl1 : List Nat), (j_freshRow N).2 = nI k ∧ mr (j_freshRow N).1 A1 ∧ 2 ≤ k ∧ k < A 9 0 ∧ V k = false ∧ (∀ f, f ≠ 9 → f ≠ 4 → A1 f = A f) ∧ A1 4 = fu (A 4) k 0 ∧ A1 9 0 = A 9 0 ∧ A1 9 4 = A 9 4 ∧ A1 9 3 = A 9 3 + 1 ∧ k < A1 9 1 ∧ A 9 1 ≤ A1 9 1 ∧ A1 9 1 ≤ A 9 0 ∧ pl_lst (A 3) (A1 9 2) fl1 ∧ fl1.Nodup ∧ (∀ i, i ∈ fl1 ↔ (2 ≤ i ∧ i < A1 9 1 ∧ fu V k true i = false)) := by
  have hR := hm.2.2.2.2.2.2.2
  obtain ⟨-, hgi, -, ⟨f1, f2, f3⟩, h5, h6, h7, -⟩ := id h
  have n1 : N 0 1 = nI (A 9 1) := hm.1 1 (by omega)
  have n2 : N 0 2 = nI (A 9 2) := hm.1 2 (by omega)
  have n3 : N 0 3 = nI (A 9 3) := hm.1 3 (by omega)
  have n0 : N 0 0 = nI (A 9 0) := hm.1 0 (by omega)
  cases fl with
  | nil =>
    have ef : A 9 2 = 0 := f1
    have hU := ti_row h hr rfl
    have hVU : V (A 9 1) = false := by
      cases e : V (A 9 1)
      · rfl
      · have := h5 _ e; omega
    have ej : j_freshRow N = (up (j_set (up N 0 1 (nI (A 9 1 + 1))) (nI (A 9 1)) (nI 4) (nI 0)) 0 3 (nI (A 9 3 + 1)), nI (A 9 1)) := by
      unfold j_freshRow
      rw [n2, ef, nI_0, if_pos rfl, n0, n1, if_pos (nI_lt hU (by omega)), n3, nI_1, nI_1]
      rfl
    have m1 := mr_fld hm (j := 1) (by omega) (by omega) (A 9 1 + 1)
    have m2 := mr_set m1 (i := A 9 1) (f := 4) (by rw [am_s, fu_n (by omega)]; exact hU) (by omega) 0
    have m3 := mr_fld m2 (j := 3) (by omega) (by omega) (A 9 3 + 1)
    refine ⟨A 9 1, am (am (am A 9 1 (A 9 1 + 1)) 4 (A 9 1) 0) 9 3 (A 9 3 + 1), [], by rw [ej], by rw [ej]; exact m3, h6.1, hU, hVU, fun f q1 q2 => ?_, ?_, ?_, ?_, ?_, ?_, ?_, ?_, ?_, List.nodup_nil, fun i => ⟨fun q => (by cases q), fun q => ?_⟩⟩
    · rw [am_n q1, am_n q2, am_n q1]
    · rw [am_n (by omega), am_s, am_n (by omega)]
    · rw [am_s, fu_n (by omega), am_n (by omega), am_s, fu_n (by omega)]
    · rw [am_s, fu_n (by omega), am_n (by omega), am_s, fu_n (by omega)]
    · rw [am_s, fu_s]
    · rw [am_s, fu_n (by omega), am_n (by omega), am_s, fu_s]; omega
    · rw [am_s, fu_n (by omega), am_n (by omega), am_s, fu_s]; omega
    · rw [am_s, fu_n (by omega), am_n (by omega), am_s, fu_s]; omega
    · rw [am_s, fu_n (by omega), am_n (by omega), am_s, fu_n (by omega)]; exact ef
    · exfalso
      obtain ⟨q1, q2, q3⟩ := q
      rw [am_s, fu_n (by omega), am_n (by omega), am_s, fu_s] at q2
      by_cases e : i = A 9 1
      · rw [e, fu_s] at q3; cases q3
      · rw [fu_n e] at q3
        have := (f3 i).mpr ⟨q1, by omega, q3⟩
        cases this
  | cons F fl' =>
    obtain ⟨ef, hF0, f1'⟩ := f1
    obtain ⟨hF2, hFU, hVF⟩ := (f3 F).mp List.mem_cons_self
    have g3 : j_get N (nI F) 3 = nI (A 3 F) := mr_get hm (f := 3) (by omega) (by omega) (by omega)
    have ej : j_freshRow N = (up (j_set (up N 0 2 (nI (A 3 F))) (nI F) (nI 4) (nI 0)) 0 3 (nI (A 9 3 + 1)), nI F) := by
      unfold j_freshRow
      rw [n2, ef, if_neg (nI_ne0 (by omega) (by omega)), g3, n3, nI_1]
      rfl
    have m1 := mr_fld hm (j := 2) (by omega) (by omega) (A 3 F)
    have m2 := mr_set m1 (i := F) (f := 4) (by rw [am_s, fu_n (by omega)]; omega) (by omega) 0
    have m3 := mr_fld m2 (j := 3) (by omega) (by omega) (A 9 3 + 1)
    rw [List.nodup_cons] at f2
    refine ⟨F, am (am (am A 9 2 (A 3 F)) 4 F 0) 9 3 (A 9 3 + 1), fl', by rw [ej], by rw [ej]; exact m3, hF2, by omega, hVF, fun f q1 q2 => ?_, ?_, ?_, ?_, ?_, ?_, ?_, ?_, ?_, f2.2, fun i => ⟨fun q => ?_, fun q => ?_⟩⟩
    · rw [am_n q1, am_n q2, am_n q1]
    · rw [am_n (by omega), am_s, am_n (by omega)]
    · rw [am_s, fu_n (by omega), am_n (by omega), am_s, fu_n (by omega)]
    · rw [am_s, fu_n (by omega), am_n (by omega), am_s, fu_n (by omega)]
    · rw [am_s, fu_s]
    · rw [am_s, fu_n (by omega), am_n (by omega), am_s, fu_n (by omega)]; omega
    · rw [am_s, fu_n (by omega), am_n (by omega), am_s, fu_n (by omega)]; omega
    · rw [am_s, fu_n (by omega), am_n (by omega), am_s, fu_n (by omega)]; omega
    · rw [am_s, fu_n (by omega), am_n (by omega), am_s, fu_s]; exact f1'
    · obtain ⟨a1, a2, a3⟩ := (f3 i).mp (List.mem_cons_of_mem _ q)
      refine ⟨a1, ?_, ?_⟩
      · rw [am_s, fu_n (by omega), am_n (by omega), am_s, fu_n (by omega)]; exact a2
      · rw [fu_n (fun e => f2.1 (by rw [← e]; exact q))]; exact a3
    · obtain ⟨q1, q2, q3⟩ := q
      rw [am_s, fu_n (by omega), am_n (by omega), am_s, fu_n (by omega)] at q2
      have e : i ≠ F := fun e => by rw [e, fu_s] at q3; cases q3
      rw [fu_n e] at q3
      rcases List.mem_cons.mp ((f3 i).mpr ⟨q1, q2, q3⟩) with z | z
      · exact absurd z e
      · exact z
theorem refer_up (hm : mr N A) {i : Nat} (hi : i < A 9 0) : ∃ A1 : Am, mr (j_refer N (nI i) 1) A1 ∧ (∀ f, f ≠ 4 → A1 f = A f) ∧ (∀ j, 2 ≤ j → A1 4 j = A 4 j + (if j = i then 1 else 0)) := by
  rcases Nat.lt_or_ge i 2 with q | q
  · refine ⟨A, mr_setE hm (by omega) _, fun _ _ => rfl, fun j hj => by rw [if_neg (by omega)]; rfl⟩
  · have g : j_get N (nI i) 4 = nI (A 4 i) := mr_get hm (f := 4) hi (by omega) (fun _ => q)
    refine ⟨am A 4 i (A 4 i + 1), ?_, fun f hf => am_n hf, fun j _ => ?_⟩
    · unfold j_refer
      rw [g, nI_1]
      exact mr_set hm (f := 4) hi (by omega) _
    · rw [am_s]
      by_cases e : j = i
      · subst e; rw [fu_s, if_pos rfl]
      · rw [fu_n e, if_neg e]; rfl
theorem refer_down (hm : mr N A) {i : Nat} (hi : i < A 9 0) (hp : 2 ≤ i → 1 ≤ A 4 i) : ∃ A1 : Am, mr (j_refer N (nI i) (-1)) A1 ∧ (∀ f, f ≠ 4 → A1 f = A f) ∧ (∀ j, 2 ≤ j → A1 4 j + (if j = i then 1 else 0) = A 4 j) := by
  rcases Nat.lt_or_ge i 2 with q | q
  · refine ⟨A, mr_setE hm (by omega) _, fun _ _ => rfl, fun j hj => by rw [if_neg (by omega)]; rfl⟩
  · have g : j_get N (nI i) 4 = nI (A 4 i) := mr_get hm (f := 4) hi (by omega) (fun _ => q)
    have p1 := hp q
    refine ⟨am A 4 i (A 4 i - 1), ?_, fun f hf => am_n hf, fun j _ => ?_⟩
    · unfold j_refer
      rw [g, sb_m1 (by omega)]
      exact mr_set hm (f := 4) hi (by omega) _
    · rw [am_s]
      by_cases e : j = i
      · subst e; rw [fu_s, if_pos rfl]; omega
      · rw [fu_n e, if_neg e]; rfl
theorem link_spec (hm : mr N A) {k v low high : Nat} (hk : k < A 9 0) (hv : v < 12) : ∃ A1 : Am, mr (j_link N (nI k) (nI v) (nI low) (nI high)) A1 ∧ A1 0 = fu (A 0) k v ∧ A1 1 = fu (A 1) k low ∧ A1 2 = fu (A 2) k high ∧ A1 3 = fu (A 3) k (A 5 (hc v low high)) ∧ A1 4 = A 4 ∧ A1 5 = fu (A 5) (hc v low high) k ∧ A1 6 = fu (A 6) v (A 6 v + 1) ∧ A1 7 = A 7 ∧ A1 8 = A 8 ∧ A1 9 = A 9 := by
  have hc1 : hc v low high < 768 := hc_lt hv
  have e1 : N 2 (hc v low high) = nI (A 5 (hc v low high)) := hm.2.2.1 _ hc1
  have e2 : N 3 v = nI (A 6 v) := hm.2.2.2.1 v hv
  have m1 := mr_set hm (i := k) (f := 0) hk (by omega) v
  have m2 := mr_set m1 (i := k) (f := 1) (by rw [am_n (by omega)]; exact hk) (by omega) low
  have m3 := mr_set m2 (i := k) (f := 2) (by rw [am_n (by omega), am_n (by omega)]; exact hk) (by omega) high
  have m4 := mr_set m3 (i := k) (f := 3) (by rw [am_n (by omega), am_n (by omega), am_n (by omega)]; exact hk) (by omega) (A 5 (hc v low high))
  have m5 := mr_head m4 (j := hc v low high) k
  have m6 := mr_held m5 (j := v) (A 6 v + 1)
  refine ⟨am (am (am (am (am (am A 0 k v) 1 k low) 2 k high) 3 k (A 5 (hc v low high))) 5 (hc v low high) k) 6 v (A 6 v + 1), ?_, rfl, rfl, rfl, rfl, rfl, rfl, rfl, rfl, rfl, rfl⟩
  unfold j_link
  rw [if_neg (nI_pos (by omega)), if_neg (nI_ge hv (by omega)), j_chain, if_neg (nI_pos (by omega)), if_neg (nI_ge hc1 (by omega)), nI_clamp (by omega : hc v low high < 2 ^ 31), nI_clamp (by omega : v < 2 ^ 31), e1, e2, nI_1]
  exact m6
end
end
section
/-! A NEW NODE in the table, and what make gives. -/
section
variable {N : Mm} {A A' : Am} {V T : Nat → Bool} {L : Nat} {dn : Nat → Bf} {ch : Nat → List Nat} {fl : List Nat} {ext : Nat → Nat}
theorem oc_new (h : gi (A 7) V T L (A 0) (A 1) (A 2) dn) {k low high : Nat} (hk : V k = false) (hk2 : k < 24800) (e1 : A' 1 = fu (A 1) k low) (e2 : A' 2 = fu (A 2) k high) (i : Nat) : oc A' (fu V k true) i = oc A V i + (if i = low then 1 else 0) + (if i = high then 1 else 0) := by
  unfold oc
  have c1 := pc_one (P := fun j => V j && A 1 j == i) (Q := fun j => fu V k true j && A' 1 j == i) (k := k) hk2 (fun j hj => by show (fu V k true j && A' 1 j == i) = (V j && A 1 j == i); rw [e1, fu_n hj, fu_n hj])
  have c2 := pc_one (P := fun j => V j && A 2 j == i) (Q := fun j => fu V k true j && A' 2 j == i) (k := k) hk2 (fun j hj => by show (fu V k true j && A' 2 j == i) = (V j && A 2 j == i); rw [e2, fu_n hj, fu_n hj])
  simp only [hk, Bool.false_and, Bool.toNat_false, e1, e2, fu_s, Bool.true_and] at c1 c2
  rw [e1, e2]
  have d1 : (low == i).toNat = if i = low then 1 else 0 := by
    by_cases q : i = low
    · subst q; simp
    · rw [if_neg q]; simp; exact fun z => q z.symm
  have d2 : (high == i).toNat = if i = high then 1 else 0 := by
    by_cases q : i = high
    · subst q; simp
    · rw [if_neg q]; simp; exact fun z => q z.symm
  rw [d1] at c1
  rw [d2] at c2
  omega
/-- nobody refers to what is not there -/
theorem oc_none (h : gi (A 7) V T L (A 0) (A 1) (A 2) dn) {k : Nat} (hk : V k = false) (hk2 : 2 ≤ k) : oc A V k = 0 := by
  unfold oc
  have key : ∀ c, vl V c → c ≠ k := fun c hc e => by
    rcases hc with q | q
    · omega
    · rw [e, hk] at q; cases q
  rw [pc_none (fun j _ => ?_), pc_none (fun j _ => ?_)]
  · cases q : V j
    · rfl
    · have := key _ (h.1 j q).2.2.2
      simpa using this
  · cases q : V j
    · rfl
    · have := key _ (h.1 j q).2.2.1
      simpa using this
theorem ti_add (h : ti A V T L dn ch fl ext) {k v low high : Nat} {fl1 : List Nat} (hv : v < 12) (hl : vl V low) (hh : vl V high) (hk : V k = false) (hk2 : 2 ≤ k)
    (hg : gi (A 7) (fu V k true) T L (fu (A 0) k v) (fu (A 1) k low) (fu (A 2) k high) (fu dn k (mk v (dn low) (dn high))))
    (e0 : A' 0 = fu (A 0) k v) (e1 : A' 1 = fu (A 1) k low) (e2 : A' 2 = fu (A 2) k high) (e3 : A' 3 = fu (A 3) k (A 5 (hc v low high))) (e5 : A' 5 = fu (A 5) (hc v low high) k) (e6 : A' 6 = fu (A 6) v (A 6 v + 1)) (e7 : A' 7 = A 7) (e8 : A' 8 = A 8)
    (e4 : ∀ j, 2 ≤ j → A' 4 j = fu (A 4) k 0 j + (if j = low then 1 else 0) + (if j = high then 1 else 0))
    (z0 : A' 9 0 = A 9 0) (z3 : A' 9 3 = A 9 3 + 1) (z1 : k < A' 9 1) (z2 : A 9 1 ≤ A' 9 1) (z4 : A' 9 1 ≤ A 9 0)
    (g1 : pl_lst (A 3) (A' 9 2) fl1) (g2 : fl1.Nodup) (g3 : ∀ i, i ∈ fl1 ↔ (2 ≤ i ∧ i < A' 9 1 ∧ fu V k true i = false)) :
    ti A' (fu V k true) T L (fu dn k (mk v (dn low) (dn high))) (fu ch (hc v low high) (k :: ch (hc v low high))) fl1 ext := by
  obtain ⟨h1, h2, h3, h4, h5, h6, h7, h8, h9, h10⟩ := h
  have hTk : T k = false := by
    cases e : T k
    · rfl
    · have := (h2.2.2.2.2.2 k e).1
      rw [hk] at this; cases this
  have hk3 : k < 24800 := by omega
  have hc1 : hc v low high < 768 := hc_lt hv
  have hkl : ∀ c, vl V c → c ≠ k := fun c hc e => by
    rcases hc with q | q
    · omega
    · rw [e, hk] at q; cases q
  refine ⟨by rw [e7, e8]; exact h1, by rw [e7, e0, e1, e2]; exact hg, fun c hcc => ?_, ⟨?_, g2, g3⟩, fun i q => ?_, ?_, ?_, fun i q => ?_, fun u hu => ?_, fun i q2 q => ?_⟩
  · obtain ⟨a1, a2, a3⟩ := h3 c hcc
    have hni : k ∉ ch c := fun q => by have := ((a3 k).mp q).1; rw [hk] at this; cases this
    have hmem : ∀ i, (fu V k true i = true ∧ T i = false ∧ hc (A' 0 i) (A' 1 i) (A' 2 i) = c) ↔ ((i = k ∧ hc v low high = c) ∨ i ∈ ch c) := fun i => by
      rw [e0, e1, e2]
      by_cases e : i = k
      · subst e
        rw [fu_s, fu_s, fu_s, fu_s]
        exact ⟨fun q => Or.inl ⟨rfl, q.2.2⟩, fun q => by
          rcases q with q | q
          · exact ⟨rfl, hTk, q.2⟩
          · exact absurd q hni⟩
      · rw [fu_n e, fu_n e, fu_n e, fu_n e, a3 i]
        exact ⟨fun q => Or.inr q, fun q => by
          rcases q with q | q
          · exact absurd q.1 e
          · exact q⟩
    by_cases ec : c = hc v low high
    · subst ec
      rw [e5, fu_s, fu_s, e3]
      refine ⟨⟨rfl, by omega, ?_⟩, List.nodup_cons.mpr ⟨hni, a2⟩, fun i => ?_⟩
      · rw [fu_s]; exact pl_upd a1 hni
      · rw [hmem i, List.mem_cons]
        exact ⟨fun q => by
          rcases q with q | q
          · exact Or.inl ⟨q, rfl⟩
          · exact Or.inr q, fun q => by
          rcases q with q | q
          · exact Or.inl q.1
          · exact Or.inr q⟩
    · rw [e5, fu_n ec, fu_n ec, e3]
      refine ⟨pl_upd a1 hni, a2, fun i => ?_⟩
      rw [hmem i]
      exact ⟨fun q => Or.inr q, fun q => by
        rcases q with q | q
        · exact absurd q.2.symm ec
        · exact q⟩
  · rw [e3]
    exact pl_upd g1 (fun q => by have := ((g3 k).mp q).2.2; rw [fu_s] at this; cases this)
  · by_cases e : i = k
    · rw [e]; exact z1
    · rw [fu_n e] at q
      have := h5 i q; omega
  · rw [z0]; exact ⟨by omega, z4, h6.2.2⟩
  · rw [z3, h7, pc_up hk3 (fun j hj => fu_n hj) hk (fu_s _ _ _)]
  · rw [oc_new h2 hk hk3 e1 e2]
    by_cases e : i = k
    · subst e
      rw [e4 i hk2, fu_s, if_neg (hkl _ hl).symm, if_neg (hkl _ hh).symm, oc_none h2 hk hk2, h10 i hk2 hk]
    · rw [fu_n e] at q
      rw [e4 i (h2.1 i q).1, fu_n e, h8 i q]
      omega
  · have c1 := pc_one (P := fun j => V j && (!T j && A 0 j == u)) (Q := fun j => fu V k true j && (!T j && A' 0 j == u)) (k := k) hk3 (fun j hj => by show (fu V k true j && (!T j && A' 0 j == u)) = (V j && (!T j && A 0 j == u)); rw [e0, fu_n hj, fu_n hj])
    simp only [hk, hTk, Bool.false_and, Bool.toNat_false, e0, fu_s, Bool.true_and, Bool.not_false] at c1
    rw [e6, e0]
    by_cases e : u = v
    · subst e
      rw [fu_s, h9 u hu]
      simp at c1
      omega
    · rw [fu_n e, h9 u hu]
      have ev : (v == u) = false := by
        rw [beq_eq_false_iff_ne]
        exact fun z => e z.symm
      rw [ev] at c1
      simp only [Bool.toNat_false, Nat.add_zero] at c1
      exact c1.symm
  · by_cases e : i = k
    · rw [e, fu_s] at q; cases q
    · rw [fu_n e] at q; exact h10 i q2 q
end
end
section
/-! make: the one node for (v, low, high). -/
def grow (A : Am) (V : Nat → Bool) (dn : Nat → Bf) (A' : Am) (V' : Nat → Bool) (dn' : Nat → Bf) : Prop :=
  (∀ i, vl V i → vl V' i ∧ dn' i = dn i ∧ A' 0 i = A 0 i ∧ A' 1 i = A 1 i ∧ A' 2 i = A 2 i) ∧ A' 7 = A 7 ∧ A' 8 = A 8 ∧ A' 9 0 = A 9 0 ∧ A' 9 4 = A 9 4
theorem grow_rf (A : Am) (V : Nat → Bool) (dn : Nat → Bf) : grow A V dn A V dn := ⟨fun _ h => ⟨h, rfl, rfl, rfl, rfl⟩, rfl, rfl, rfl, rfl⟩
theorem grow_tr {A A' A'' : Am} {V V' V'' : Nat → Bool} {dn dn' dn'' : Nat → Bf} (h : grow A V dn A' V' dn') (g : grow A' V' dn' A'' V'' dn'') : grow A V dn A'' V'' dn'' := by
  obtain ⟨h1, h2, h3, h4, h5⟩ := h
  obtain ⟨g1, g2, g3, g4, g5⟩ := g
  refine ⟨fun i hi => ?_, g2.trans h2, g3.trans h3, g4.trans h4, g5.trans h5⟩
  obtain ⟨a1, a2, a3, a4, a5⟩ := h1 i hi
  obtain ⟨b1, b2, b3, b4, b5⟩ := g1 i a1
  exact ⟨b1, b2.trans a2, b3.trans a3, b4.trans a4, b5.trans a5⟩
section
variable {N : Mm} {A : Am} {V T : Nat → Bool} {L : Nat} {dn : Nat → Bf} {ch : Nat → List Nat} {fl : List Nat} {ext : Nat → Nat}
theorem make_spec (hm : mr N A) (h : ti A V T L dn ch fl ext) {v low high : Nat} (hv : v < 12) (hTL : ∀ i, T i = true → L < A 7 v) (hl : vl V low) (hh : vl V high) (tl : T low = false) (th : T high = false) (ll : A 7 v < A 7 (A 0 low)) (lh : A 7 v < A 7 (A 0 high))
    (hroom : ∀ k, V k = false → 2 ≤ k → k ≤ 24800 → gi (A 7) (fu V k true) T L (fu (A 0) k v) (fu (A 1) k low) (fu (A 2) k high) (fu dn k (mk v (dn low) (dn high))) → A 9 3 + 2 < A 9 0) :
    ∃ (N' : Mm) (A' : Am) (V' : Nat → Bool) (dn' : Nat → Bf) (ch' : Nat → List Nat) (fl' : List Nat) (r : Nat), j_make N (nI v) (nI low) (nI high) = (N', nI r) ∧ mr N' A' ∧ ti A' V' T L dn' ch' fl' ext ∧ grow A V dn A' V' dn' ∧ vl V' r ∧ T r = false ∧ dn' r = mk v (dn low) (dn high) ∧
      ((V' = V ∧ A' = A ∧ dn' = dn) ∨ (V r = false ∧ V' = fu V r true ∧ A' 0 = fu (A 0) r v ∧ A' 1 = fu (A 1) r low ∧ A' 2 = fu (A 2) r high ∧ A' 9 3 = A 9 3 + 1)) := by
  have hR := hm.2.2.2.2.2.2.2
  obtain ⟨h1, h2, h3, h4, h5, h6, h7, h8, h9, h10⟩ := id h
  have bl := (ti_lt h hl).2
  have bh := (ti_lt h hh).2
  by_cases e : low = high
  · refine ⟨N, A, V, dn, ch, fl, low, ?_, hm, h, grow_rf _ _ _, hl, tl, ?_, Or.inl ⟨rfl, rfl, rfl⟩⟩
    · unfold j_make; rw [if_pos (by rw [e])]
    · rw [← e, mk_same]
  · have en : ¬ nI low = nI high := fun q => e ((nI_eq (by omega) (by omega)).mp q)
    have hc1 : hc v low high < 768 := hc_lt hv
    have e2 : N 2 (hc v low high) = nI (A 5 (hc v low high)) := hm.2.2.1 _ hc1
    obtain ⟨c1, c2, c3⟩ := h3 _ hc1
    have hin : ∀ x ∈ ch (hc v low high), V x = true ∧ T x = false ∧ hc (A 0 x) (A 1 x) (A 2 x) = hc v low high := fun x hx => (c3 x).mp hx
    have hlen : (ch (hc v low high)).length ≤ 24800 := Nat.le_trans (pc_list (P := V) (n := 24800) c2 (fun x hx => ⟨by have := h5 x (hin x hx).1; omega, (hin x hx).1⟩)) (pc_lt _ _)
    have ej : j_make N (nI v) (nI low) (nI high) = if j_findL N (nI low) (nI high) 24800 (nI (A 5 (hc v low high))) = 0 then j_fresh2 N (nI v) (nI low) (nI high) else (N, j_findL N (nI low) (nI high) 24800 (nI (A 5 (hc v low high)))) := by
      unfold j_make
      rw [if_neg en, j_chain, if_neg (nI_pos (by omega)), if_neg (nI_ge hc1 (by omega)), nI_clamp (by omega : hc v low high < 2 ^ 31), e2]
    rcases findL_spec hm (low := low) (high := high) (by omega) (by omega) 24800 _ _ c1 hlen (fun x hx => by
      obtain ⟨q1, q2, q3⟩ := hin x hx
      obtain ⟨-, -, k1, k2⟩ := h2.1 x q1
      have t1 := (ti_lt h k1).2
      have t2 := (ti_lt h k2).2
      have t3 := h5 x q1
      omega) with ⟨f1, f2⟩ | ⟨x, x1, x2, x3, x4⟩
    · have nf : ∀ j, V j = true → T j = false → A 0 j = v → A 1 j = low → A 2 j = high → False := fun j q1 q2 q3 q4 q5 => f2 j ((c3 j).mpr ⟨q1, q2, by rw [q3, q4, q5]⟩) ⟨q4, q5⟩
      have hU : V (A 9 1) = false := by
        cases q : V (A 9 1)
        · rfl
        · have := h5 _ q; omega
      have hrm := hroom _ hU h6.1 (by omega) (gi_add h2 h1 hv hTL hl hh tl th ll lh e nf hU h6.1)
      obtain ⟨k, A1, fl1, k1, m1, k2, k3, k4, p1, p2, p3, p4, p5, p6, p7, p8, p9, p10, p11⟩ := fresh_spec hm h hrm
      obtain ⟨A2, m2, q1, q2⟩ := refer_up m1 (i := low) (by rw [p3]; exact bl)
      have q19 : A2 9 = A1 9 := q1 9 (by omega)
      obtain ⟨A3, m3, r1, r2⟩ := refer_up m2 (i := high) (by rw [q19, p3]; exact bh)
      have r19 : A3 9 = A1 9 := (r1 9 (by omega)).trans q19
      obtain ⟨A4, m4, s0, s1, s2, s3, s4, s5, s6, s7, s8, s9⟩ := link_spec m3 (k := k) (v := v) (low := low) (high := high) (by rw [r19, p3]; exact k3) hv
      have hf : ∀ f, f ≠ 9 → f ≠ 4 → A3 f = A f := fun f g1 g2 => by rw [r1 f g2, q1 f g2, p1 f g1 g2]
      rw [hf 0 (by omega) (by omega)] at s0
      rw [hf 1 (by omega) (by omega)] at s1
      rw [hf 2 (by omega) (by omega)] at s2
      rw [hf 3 (by omega) (by omega), hf 5 (by omega) (by omega)] at s3
      rw [hf 5 (by omega) (by omega)] at s5
      rw [hf 6 (by omega) (by omega)] at s6
      rw [hf 7 (by omega) (by omega)] at s7
      rw [hf 8 (by omega) (by omega)] at s8
      rw [r19] at s9
      have ej2 : j_make N (nI v) (nI low) (nI high) = (j_link (j_refer (j_refer (j_freshRow N).1 (nI low) 1) (nI high) 1) (nI k) (nI v) (nI low) (nI high), nI k) := by
        rw [ej, if_pos f1]
        unfold j_fresh2
        rw [k1, if_neg (nI_ne0 (by omega) (by omega))]
      have hgi := gi_add h2 h1 hv hTL hl hh tl th ll lh e nf k4 k2
      have hkl : ∀ c, vl V c → c ≠ k := fun c hc e => by
        rcases hc with q | q
        · omega
        · rw [e, k4] at q; cases q
      refine ⟨_, A4, fu V k true, fu dn k (mk v (dn low) (dn high)), fu ch (hc v low high) (k :: ch (hc v low high)), fl1, k, ej2, m4, ?_, ⟨fun i hi => ?_, s7, s8, by rw [s9, p3], by rw [s9, p4]⟩, Or.inr (fu_s _ _ _), ?_, fu_s _ _ _, Or.inr ⟨k4, rfl, s0, s1, s2, by rw [s9, p5]⟩⟩
      · refine ti_add h hv hl hh k4 k2 hgi s0 s1 s2 s3 s5 s6 s7 s8 (fun j hj => ?_) (by rw [s9, p3]) (by rw [s9, p5]) (by rw [s9]; exact p6) (by rw [s9]; exact p7) (by rw [s9]; exact p8) (by rw [s9]; exact p9) p10 (by rw [s9]; exact p11)
        rw [s4, r2 j hj, q2 j hj, p2]
      · have ne := hkl i hi
        rw [s0, s1, s2, fu_n ne, fu_n ne, fu_n ne, fu_n ne]
        refine ⟨?_, rfl, rfl, rfl, rfl⟩
        rcases hi with q | q
        · exact Or.inl q
        · exact Or.inr (by rw [fu_n ne]; exact q)
      · cases q : T k
        · rfl
        · have := (h2.2.2.2.2.2 k q).1
          rw [k4] at this; cases this
    · obtain ⟨q1, q2, q3⟩ := hin x x1
      have ev : A 0 x = v := by
        rw [x2, x3] at q3
        unfold hc at q3
        omega
      have ej2 : j_make N (nI v) (nI low) (nI high) = (N, nI x) := by
        rw [ej, x4, if_neg (nI_ne0 (by have := (h2.1 x q1).1; omega) (by have := h5 x q1; omega))]
      refine ⟨N, A, V, dn, ch, fl, x, ej2, hm, h, grow_rf _ _ _, Or.inr q1, q2, ?_, Or.inl ⟨rfl, rfl, rfl⟩⟩
      rw [h2.2.2.1 x q1, ev, x2, x3]
end
end
section
/-! THE MEMO. E 0: its rows (1024 of five numbers), E 1 0: the age. -/
def j_place (a b c : Int32) : Int32 := ((((a * (-1640531535) + b * (-2048144789) + c * (-1028477387)).toUInt32 >>> ((20 : Int32).toUInt32 &&& Int32.toUInt32 31)).toInt32) &&& 1023) * 5
def j_forget (E : Mm) : Mm := up E 1 0 (E 1 0 + 1)
def j_answerFor (E : Mm) (a b c : Int32) : Int32 :=
  if j_place a b c < 0 then -1 else if nI 5120 < j_place a b c + 5 then -1 else if ¬ E 0 (j_place a b c + 3).toNatClampNeg = E 1 0 then -1 else
  if E 0 (j_place a b c).toNatClampNeg = a ∧ E 0 (j_place a b c + 1).toNatClampNeg = b ∧ E 0 (j_place a b c + 2).toNatClampNeg = c then E 0 (j_place a b c + 4).toNatClampNeg else -1
def j_keep (E : Mm) (a b c r : Int32) : Mm :=
  if j_place a b c < 0 then E else if nI 5120 < j_place a b c + 5 then E else
  up (up (up (up (up E 0 (j_place a b c).toNatClampNeg a) 0 (j_place a b c + 1).toNatClampNeg b) 0 (j_place a b c + 2).toNatClampNeg c) 0 (j_place a b c + 3).toNatClampNeg (E 1 0)) 0 (j_place a b c + 4).toNatClampNeg r
theorem place_e (a b c : Int32) : ∃ q : Nat, q < 1024 ∧ j_place a b c = nI (5 * q) := by
  obtain ⟨j, hj, e⟩ := pk_andE ((((a * (-1640531535) + b * (-2048144789) + c * (-1028477387)).toUInt32 >>> ((20 : Int32).toUInt32 &&& Int32.toUInt32 31)).toInt32)) (m := 1023) 10 (by decide)
  refine ⟨j, by omega, ?_⟩
  unfold j_place
  rw [e, show (5 : Int32) = nI 5 from rfl, pk_mul, Nat.mul_comm]
/-- no entry is younger than g, and what is of age g is P -/
def me (E : Mm) (g : Nat) (P : Int32 → Int32 → Int32 → Int32 → Prop) : Prop :=
  E 1 0 = nI g ∧ g < 2 ^ 30 ∧ ∀ q, q < 1024 → (∃ t, t ≤ g ∧ E 0 (5 * q + 3) = nI t) ∧ (E 0 (5 * q + 3) = nI g → P (E 0 (5 * q)) (E 0 (5 * q + 1)) (E 0 (5 * q + 2)) (E 0 (5 * q + 4)))
theorem me_mono {E : Mm} {g : Nat} {P Q : Int32 → Int32 → Int32 → Int32 → Prop} (h : me E g P) (hq : ∀ a b c r, P a b c r → Q a b c r) : me E g Q := ⟨h.1, h.2.1, fun q hq1 => ⟨(h.2.2 q hq1).1, fun e => hq _ _ _ _ ((h.2.2 q hq1).2 e)⟩⟩
theorem me_forget {E : Mm} {g : Nat} {P Q : Int32 → Int32 → Int32 → Int32 → Prop} (h : me E g P) (hg : g + 1 < 2 ^ 30) : me (j_forget E) (g + 1) Q := by
  obtain ⟨h1, h2, h3⟩ := h
  have e0 : j_forget E 0 = E 0 := up_n (by omega)
  refine ⟨?_, hg, fun q hq => ?_⟩
  · unfold j_forget; rw [up_s, upd_s, h1, nI_1]
  · obtain ⟨⟨t, t1, t2⟩, -⟩ := h3 q hq
    rw [e0]
    refine ⟨⟨t, by omega, t2⟩, fun e => ?_⟩
    rw [t2] at e
    have := (nI_eq (by omega) (by omega)).mp e
    omega
theorem me_ask {E : Mm} {g : Nat} {P : Int32 → Int32 → Int32 → Int32 → Prop} (h : me E g P) (a b c : Int32) : j_answerFor E a b c = -1 ∨ P a b c (j_answerFor E a b c) := by
  obtain ⟨q, q1, e⟩ := place_e a b c
  obtain ⟨h1, h2, h3⟩ := h
  obtain ⟨⟨t, t1, t2⟩, hp⟩ := h3 q q1
  unfold j_answerFor
  rw [e, if_neg (nI_pos (by omega)), show nI (5 * q) + 5 = nI (5 * q + 5) from nI_add _ _, if_neg (nI_nlt (by omega) (by omega)), show nI (5 * q) + 3 = nI (5 * q + 3) from nI_add _ _, show nI (5 * q) + 1 = nI (5 * q + 1) from nI_add _ _, show nI (5 * q) + 2 = nI (5 * q + 2) from nI_add _ _, show nI (5 * q) + 4 = nI (5 * q + 4) from nI_add _ _,
    nI_clamp (by omega : 5 * q < 2 ^ 31), nI_clamp (by omega : 5 * q + 1 < 2 ^ 31), nI_clamp (by omega : 5 * q + 2 < 2 ^ 31), nI_clamp (by omega : 5 * q + 3 < 2 ^ 31), nI_clamp (by omega : 5 * q + 4 < 2 ^ 31)]
  by_cases c1 : E 0 (5 * q + 3) = E 1 0
  · rw [if_neg (fun z => z c1)]
    by_cases c2 : E 0 (5 * q) = a ∧ E 0 (5 * q + 1) = b ∧ E 0 (5 * q + 2) = c
    · rw [if_pos c2]
      have := hp (by rw [c1, h1])
      rw [c2.1, c2.2.1, c2.2.2] at this
      exact Or.inr this
    · rw [if_neg c2]; exact Or.inl rfl
  · rw [if_pos c1]; exact Or.inl rfl
theorem me_keep {E : Mm} {g : Nat} {P : Int32 → Int32 → Int32 → Int32 → Prop} (h : me E g P) {a b c r : Int32} (hp : P a b c r) : me (j_keep E a b c r) g P := by
  obtain ⟨q, q1, e⟩ := place_e a b c
  obtain ⟨h1, h2, h3⟩ := h
  have ek : j_keep E a b c r = up (up (up (up (up E 0 (5 * q) a) 0 (5 * q + 1) b) 0 (5 * q + 2) c) 0 (5 * q + 3) (E 1 0)) 0 (5 * q + 4) r := by
    unfold j_keep
    rw [e, if_neg (nI_pos (by omega)), show nI (5 * q) + 5 = nI (5 * q + 5) from nI_add _ _, if_neg (nI_nlt (by omega) (by omega)), show nI (5 * q) + 3 = nI (5 * q + 3) from nI_add _ _, show nI (5 * q) + 1 = nI (5 * q + 1) from nI_add _ _, show nI (5 * q) + 2 = nI (5 * q + 2) from nI_add _ _, show nI (5 * q) + 4 = nI (5 * q + 4) from nI_add _ _,
      nI_clamp (by omega : 5 * q < 2 ^ 31), nI_clamp (by omega : 5 * q + 1 < 2 ^ 31), nI_clamp (by omega : 5 * q + 2 < 2 ^ 31), nI_clamp (by omega : 5 * q + 3 < 2 ^ 31), nI_clamp (by omega : 5 * q + 4 < 2 ^ 31)]
  have e0 : j_keep E a b c r 0 = upd (upd (upd (upd (upd (E 0) (5 * q) a) (5 * q + 1) b) (5 * q + 2) c) (5 * q + 3) (E 1 0)) (5 * q + 4) r := by
    rw [ek, up_s, up_s, up_s, up_s, up_s]
  have e1 : j_keep E a b c r 1 = E 1 := by
    rw [ek, up_n (by omega), up_n (by omega), up_n (by omega), up_n (by omega), up_n (by omega)]
  refine ⟨by rw [e1]; exact h1, h2, fun z hz => ?_⟩
  rw [e0]
  by_cases ez : z = q
  · subst ez
    rw [upd_n (by omega : 5 * z + 3 ≠ 5 * z + 4), upd_s]
    refine ⟨⟨g, Nat.le_refl g, h1⟩, fun _ => ?_⟩
    rw [upd_s, upd_n (by omega : 5 * z + 2 ≠ 5 * z + 4), upd_n (by omega : 5 * z + 2 ≠ 5 * z + 3), upd_s, upd_n (by omega : 5 * z + 1 ≠ 5 * z + 4), upd_n (by omega : 5 * z + 1 ≠ 5 * z + 3), upd_n (by omega : 5 * z + 1 ≠ 5 * z + 2), upd_s,
      upd_n (by omega : 5 * z ≠ 5 * z + 4), upd_n (by omega : 5 * z ≠ 5 * z + 3), upd_n (by omega : 5 * z ≠ 5 * z + 2), upd_n (by omega : 5 * z ≠ 5 * z + 1), upd_s]
    exact hp
  · have k : ∀ d, d < 5 → upd (upd (upd (upd (upd (E 0) (5 * q) a) (5 * q + 1) b) (5 * q + 2) c) (5 * q + 3) (E 1 0)) (5 * q + 4) r (5 * z + d) = E 0 (5 * z + d) := fun d hd => by
      rw [upd_n (by omega), upd_n (by omega), upd_n (by omega), upd_n (by omega), upd_n (by omega)]
    have k0 : upd (upd (upd (upd (upd (E 0) (5 * q) a) (5 * q + 1) b) (5 * q + 2) c) (5 * q + 3) (E 1 0)) (5 * q + 4) r (5 * z) = E 0 (5 * z) := k 0 (by omega)
    rw [k 3 (by omega), k0, k 1 (by omega), k 2 (by omega), k 4 (by omega)]
    exact h3 z hz
end
section
/-! pick: the choice of two functions by a third. -/
def j_pickB (f g h : Int32) : Int32 := if f = 1 then g else if g = h then g else if f = 0 then h else f
def j_pick : Nat → Mm → Mm → Int32 → Int32 → Int32 → Mm × Mm × Int32
  | 0, N, E, f, g, h => (N, E, j_pickB f g h)
  | d + 1, N, E, f, g, h =>
    if f = 1 ∨ g = h ∨ f = 0 ∨ (g = 1 ∧ h = 0) then (N, E, j_pickB f g h) else
    if ¬ j_answerFor E f g h = -1 then (N, E, j_answerFor E f g h) else
    match j_pick d N E (j_lowFor N f (j_firstAsked N f g h)) (j_lowFor N g (j_firstAsked N f g h)) (j_lowFor N h (j_firstAsked N f g h)) with
    | (N1, E1, low) =>
      match j_pick d N1 E1 (j_highFor N1 f (j_firstAsked N f g h)) (j_highFor N1 g (j_firstAsked N f g h)) (j_highFor N1 h (j_firstAsked N f g h)) with
      | (N2, E2, high) =>
        match j_make N2 (j_firstAsked N f g h) low high with
        | (N3, r) => (N3, j_keep E2 f g h r, r)
def itf (F G H : Bf) : Bf := fun a => bif F a then G a else H a
def tp (A : Am) (V : Nat → Bool) : Nat := pc_cnt (fun i => V i && decide (A 7 (A 0 i) < 9)) 24800
def nT : Nat → Bool := fun _ => false
/-- what there is between two calls: the table without a swap -/
def tn (A : Am) (V : Nat → Bool) (dn : Nat → Bf) (ch : Nat → List Nat) (fl : List Nat) (ext : Nat → Nat) : Prop := ti A V nT 0 dn ch fl ext
def bud : Nat → Nat
  | 0 => 0
  | d + 1 => if d < 3 then 0 else 2 * bud d + 1
section
variable {N E : Mm} {A : Am} {V : Nat → Bool} {dn : Nat → Bf} {ch : Nat → List Nat} {fl : List Nat} {ext : Nat → Nat}
theorem tn_size (h : tn A V dn ch fl ext) : A 9 3 ≤ tp A V + 254 := by
  obtain ⟨h1, h2, -, -, -, h6, h7, -⟩ := h
  have c1 := pc_split V (fun i => decide (A 7 (A 0 i) < 9)) 24800
  have c2 := gi_bot h2 h1 (n := 24800) (by omega)
  have c3 : pc_cnt (fun i => V i && !decide (A 7 (A 0 i) < 9)) 24800 = pc_cnt (fun i => V i && decide (9 ≤ rk (A 7) (A 0) nT 0 i)) 24800 := pc_congr (fun i _ => by
    rw [rk_f rfl]
    cases V i
    · rfl
    · simp only [Bool.true_and]
      rw [Bool.eq_iff_iff]
      simp)
  rw [c3] at c1
  unfold tp
  omega
/-- make between calls: at most one node more on the first nine levels, if it stands there -/
theorem make_tn (hm : mr N A) (h : tn A V dn ch fl ext) {v low high : Nat} (hv : v < 12) (hl : vl V low) (hh : vl V high) (ll : A 7 v < A 7 (A 0 low)) (lh : A 7 v < A 7 (A 0 high)) (hb : tp A V + (if A 7 v < 9 then 1 else 0) + 256 ≤ A 9 0) :
    ∃ (N' : Mm) (A' : Am) (V' : Nat → Bool) (dn' : Nat → Bf) (ch' : Nat → List Nat) (fl' : List Nat) (r : Nat), j_make N (nI v) (nI low) (nI high) = (N', nI r) ∧ mr N' A' ∧ tn A' V' dn' ch' fl' ext ∧ grow A V dn A' V' dn' ∧ vl V' r ∧ dn' r = mk v (dn low) (dn high) ∧ tp A' V' ≤ tp A V + (if A 7 v < 9 then 1 else 0) := by
  obtain ⟨h1, h2, h3, h4, h5, h6, h7, -⟩ := id h
  have hroom : ∀ k, V k = false → 2 ≤ k → k ≤ 24800 → gi (A 7) (fu V k true) nT 0 (fu (A 0) k v) (fu (A 1) k low) (fu (A 2) k high) (fu dn k (mk v (dn low) (dn high))) → A 9 3 + 2 < A 9 0 := fun k k1 k2 k3 hg => by
    have hsz := tn_size h
    by_cases c : A 7 v < 9
    · rw [if_pos c] at hb; omega
    · rw [if_neg c] at hb
      have b2 := gi_bot hg h1 (n := 24801) (by omega)
      have c0 := pc_up (P := fun i => V i && decide (9 ≤ rk (A 7) (A 0) nT 0 i)) (Q := fun i => fu V k true i && decide (9 ≤ rk (A 7) (fu (A 0) k v) nT 0 i)) (n := 24801) (k := k) (by omega) (fun j hj => by
        show (fu V k true j && decide (9 ≤ rk (A 7) (fu (A 0) k v) nT 0 j)) = (V j && decide (9 ≤ rk (A 7) (A 0) nT 0 j))
        rw [fu_n hj]
        unfold rk
        rw [fu_n hj]) (by simp [k1]) (by
        show (fu V k true k && decide (9 ≤ rk (A 7) (fu (A 0) k v) nT 0 k)) = true
        rw [fu_s, rk_f rfl, fu_s]
        simp
        omega)
      have c2 : pc_cnt (fun i => V i && decide (9 ≤ rk (A 7) (A 0) nT 0 i)) 24801 = pc_cnt (fun i => V i && decide (9 ≤ rk (A 7) (A 0) nT 0 i)) 24800 := by
        show pc_cnt (fun i => V i && decide (9 ≤ rk (A 7) (A 0) nT 0 i)) 24800 + (V 24800 && decide (9 ≤ rk (A 7) (A 0) nT 0 24800)).toNat = _
        have : V 24800 = false := by
          cases q : V 24800
          · rfl
          · have := h5 _ q; omega
        rw [this, Bool.false_and, Bool.toNat_false, Nat.add_zero]
      have c1 := pc_split V (fun i => decide (A 7 (A 0 i) < 9)) 24800
      have c3 : pc_cnt (fun i => V i && !decide (A 7 (A 0 i) < 9)) 24800 = pc_cnt (fun i => V i && decide (9 ≤ rk (A 7) (A 0) nT 0 i)) 24800 := pc_congr (fun i _ => by
        rw [rk_f rfl]
        cases V i
        · rfl
        · simp only [Bool.true_and]
          rw [Bool.eq_iff_iff]
          simp)
      rw [c3] at c1
      unfold tp at hb
      omega
  obtain ⟨N', A', V', dn', ch', fl', r, q1, q2, q3, q4, q5, q6, q7, q8⟩ := make_spec hm h hv (fun _ q => by cases q) hl hh rfl rfl ll lh hroom
  refine ⟨N', A', V', dn', ch', fl', r, q1, q2, q3, q4, q5, q7, ?_⟩
  rcases q8 with ⟨rfl, rfl, -⟩ | ⟨z1, rfl, z2, -, -, -⟩
  · omega
  · unfold tp
    have hr : r < 24800 := by
      have := (ti_lt q3 q5).2
      have h6' := q3.2.2.2.2.2.1
      omega
    have c := pc_one (P := fun i => V i && decide (A 7 (A 0 i) < 9)) (Q := fun i => fu V r true i && decide (A' 7 (A' 0 i) < 9)) hr (fun j hj => by
      show (fu V r true j && decide (A' 7 (A' 0 j) < 9)) = (V j && decide (A 7 (A 0 j) < 9))
      rw [q4.2.1, z2, fu_n hj, fu_n hj])
    simp only [z1, Bool.false_and, Bool.toNat_false, q4.2.1, z2, fu_s, Bool.true_and] at c
    rw [q4.2.1, z2]
    by_cases c9 : A 7 v < 9
    · rw [if_pos c9]; simp [c9] at c; omega
    · rw [if_neg c9]; simp [c9] at c; omega
end
end
section
/-! pick gives the choice. -/
def lw (A : Am) (v f : Nat) : Nat := if A 0 f = v then A 1 f else f
def hw (A : Am) (v f : Nat) : Nat := if A 0 f = v then A 2 f else f
def PP (V : Nat → Bool) (dn : Nat → Bf) (a b c r : Int32) : Prop := ∃ f g h k : Nat, a = nI f ∧ b = nI g ∧ c = nI h ∧ r = nI k ∧ vl V f ∧ vl V g ∧ vl V h ∧ vl V k ∧ dn k = itf (dn f) (dn g) (dn h)
theorem itf_mk (v : Nat) (a b c d e f : Bf) : itf (mk v a b) (mk v c d) (mk v e f) = mk v (itf a c e) (itf b d f) := by
  funext x
  unfold itf mk
  cases x v <;> rfl
theorem itf_ind {F G H : Bf} {x : Nat} (h1 : ind F x) (h2 : ind G x) (h3 : ind H x) : ind (itf F G H) x := fun a b => by
  unfold itf
  rw [h1, h2, h3]
theorem j_min_n {a b : Nat} (ha : a < 2 ^ 31) (hb : b < 2 ^ 31) : j_min (nI a) (nI b) = nI (min a b) := by
  unfold j_min
  by_cases q : b < a
  · rw [if_pos ((nI_ltI hb ha).mpr q), Nat.min_eq_right (by omega)]
  · rw [if_neg (fun z => q ((nI_ltI hb ha).mp z)), Nat.min_eq_left (by omega)]
theorem bud_le {d k : Nat} (h : 12 ≤ d + 1 + k) : 2 * bud d + (if k < 9 then 1 else 0) ≤ bud (d + 1) ∧ bud d ≤ bud (d + 1) := by
  show 2 * bud d + (if k < 9 then 1 else 0) ≤ (if d < 3 then 0 else 2 * bud d + 1) ∧ bud d ≤ (if d < 3 then 0 else 2 * bud d + 1)
  by_cases c : d < 3
  · have : bud d = 0 := by
      rcases (show d = 0 ∨ d = 1 ∨ d = 2 by omega) with e | e | e <;> subst e <;> rfl
    rw [if_pos c, if_neg (by omega), this]
    omega
  · rw [if_neg c]
    by_cases q : k < 9
    · rw [if_pos q]; omega
    · rw [if_neg q]; omega
theorem nI_q1 {f : Nat} (h : f < 24800) : nI f = 1 ↔ f = 1 := nI_eq (a := f) (b := 1) (by omega) (by omega)
theorem nI_q0 {f : Nat} (h : f < 24800) : nI f = 0 ↔ f = 0 := nI_eq (a := f) (b := 0) (by omega) (by omega)
theorem nI_qq {f g : Nat} (h : f < 24800) (k : g < 24800) : nI f = nI g ↔ f = g := nI_eq (by omega) (by omega)
theorem pick_0 (N E : Mm) (f g h : Int32) : j_pick 0 N E f g h = (N, E, j_pickB f g h) := rfl
theorem pick_b {d : Nat} {N E : Mm} {f g h : Int32} (c : f = 1 ∨ g = h ∨ f = 0 ∨ (g = 1 ∧ h = 0)) : j_pick (d + 1) N E f g h = (N, E, j_pickB f g h) := by
  rw [j_pick, if_pos c]
theorem pick_m {d : Nat} {N E : Mm} {f g h : Int32} (c : ¬ (f = 1 ∨ g = h ∨ f = 0 ∨ (g = 1 ∧ h = 0))) (c2 : ¬ j_answerFor E f g h = -1) : j_pick (d + 1) N E f g h = (N, E, j_answerFor E f g h) := by
  rw [j_pick, if_neg c, if_pos c2]
theorem pick_r {d : Nat} {N E N1 E1 N2 E2 N3 : Mm} {f g h v low high r : Int32} (c : ¬ (f = 1 ∨ g = h ∨ f = 0 ∨ (g = 1 ∧ h = 0))) (c2 : j_answerFor E f g h = -1) (c3 : j_firstAsked N f g h = v)
    (c4 : j_pick d N E (j_lowFor N f v) (j_lowFor N g v) (j_lowFor N h v) = (N1, E1, low)) (c5 : j_pick d N1 E1 (j_highFor N1 f v) (j_highFor N1 g v) (j_highFor N1 h v) = (N2, E2, high)) (c6 : j_make N2 v low high = (N3, r)) :
    j_pick (d + 1) N E f g h = (N3, j_keep E2 f g h r, r) := by
  rw [j_pick, if_neg c, if_neg (fun z => z c2), c3, c4]
  dsimp only
  rw [c5]
  dsimp only
  rw [c6]
section
variable {N E : Mm} {A : Am} {V : Nat → Bool} {dn : Nat → Bf} {ch : Nat → List Nat} {fl : List Nat} {ext : Nat → Nat}
theorem tn_lt (h : tn A V dn ch fl ext) {i : Nat} (hv : vl V i) : i < 24800 := by
  have := (ti_lt h hv).2
  have := h.2.2.2.2.2.1
  omega
theorem tn_va (h : tn A V dn ch fl ext) {i : Nat} (hv : vl V i) : A 0 i < 13 := gi_va h.2.1 hv
theorem asked_spec (hm : mr N A) (h : tn A V dn ch fl ext) {f : Nat} (hf : vl V f) : j_get N (nI f) 0 = nI (A 0 f) := mr_get hm (f := 0) (ti_lt h hf).2 (by omega) (by omega)
theorem levA_spec (hm : mr N A) (h : tn A V dn ch fl ext) {f : Nat} (hf : vl V f) : j_levelOf N (j_get N (nI f) 0) = nI (A 7 (A 0 f)) := by
  rw [asked_spec hm h hf, mr_lev hm (tn_va h hf)]
theorem low_spec (hm : mr N A) (h : tn A V dn ch fl ext) {f v : Nat} (hf : vl V f) (hv : v < 12) (hl : A 7 v ≤ A 7 (A 0 f)) :
    j_lowFor N (nI f) (nI v) = nI (lw A v f) ∧ j_highFor N (nI f) (nI v) = nI (hw A v f) ∧ vl V (lw A v f) ∧ vl V (hw A v f) ∧ A 7 v < A 7 (A 0 (lw A v f)) ∧ A 7 v < A 7 (A 0 (hw A v f)) ∧ dn f = mk v (dn (lw A v f)) (dn (hw A v f)) := by
  have h2 := h.2.1
  have hp := h.1
  have fva := tn_va h hf
  unfold j_lowFor j_highFor lw hw
  rw [asked_spec hm h hf]
  by_cases e : A 0 f = v
  · have fV : V f = true := by
      rcases hf with q | q
      · have := gi_end h2 q; omega
      · exact q
    obtain ⟨-, -, c1, c2⟩ := h2.1 f fV
    obtain ⟨o1, o2⟩ := h2.2.2.2.2.1 f fV rfl
    rw [rk_f rfl] at o1 o2
    rw [e] at o1 o2
    rw [if_pos e, if_pos e, if_pos (by rw [e]), if_pos (by rw [e])]
    refine ⟨mr_get hm (f := 1) (ti_lt h hf).2 (by omega) (by omega), mr_get hm (f := 2) (ti_lt h hf).2 (by omega) (by omega), c1, c2, o1, o2, ?_⟩
    have := h2.2.2.1 f fV
    rw [e] at this
    exact this
  · have en : ¬ nI (A 0 f) = nI v := fun q => e ((nI_eq (by omega) (by omega)).mp q)
    have ol : A 7 v < A 7 (A 0 f) := by
      rcases Nat.lt_or_ge (A 7 v) (A 7 (A 0 f)) with q | q
      · exact q
      · exact absurd (lp_inj hp fva (by omega) (by omega)) e
    rw [if_neg e, if_neg e, if_neg en, if_neg en]
    exact ⟨rfl, rfl, hf, hf, ol, ol, (mk_same v _).symm⟩
theorem first_spec (hm : mr N A) (h : tn A V dn ch fl ext) {f g k : Nat} (hf : V f = true) (hg : vl V g) (hk : vl V k) : ∃ v : Nat, j_firstAsked N (nI f) (nI g) (nI k) = nI v ∧ v < 12 ∧ A 7 v ≤ A 7 (A 0 f) ∧ A 7 v ≤ A 7 (A 0 g) ∧ A 7 v ≤ A 7 (A 0 k) ∧ (A 7 v = A 7 (A 0 f) ∨ A 7 v = A 7 (A 0 g) ∨ A 7 v = A 7 (A 0 k)) := by
  have hp := h.1
  have b1 := (hp.1 _ (tn_va h (Or.inr hf))).1
  have b2 := (hp.1 _ (tn_va h hg)).1
  have b3 := (hp.1 _ (tn_va h hk)).1
  have lf := lp_lt hp (h.2.1.1 f hf).2.1
  have e : j_firstAsked N (nI f) (nI g) (nI k) = nI (A 8 (min (min (A 7 (A 0 f)) (A 7 (A 0 g))) (A 7 (A 0 k)))) := by
    unfold j_firstAsked
    rw [levA_spec hm h (Or.inr hf), levA_spec hm h hg, levA_spec hm h hk, j_min_n (by omega) (by omega), j_min_n (by omega) (by omega), mr_var hm (by omega)]
  obtain ⟨w1, w2⟩ := hp.2.1 (min (min (A 7 (A 0 f)) (A 7 (A 0 g))) (A 7 (A 0 k))) (by omega)
  refine ⟨_, e, lp_vr hp (by omega), ?_, ?_, ?_, ?_⟩ <;> rw [w2] <;> omega
theorem pickB_spec (h : tn A V dn ch fl ext) {f g k : Nat} (hf : vl V f) (hg : vl V g) (hk : vl V k) (hc : f = 1 ∨ g = k ∨ f = 0 ∨ (g = 1 ∧ k = 0)) : ∃ r : Nat, j_pickB (nI f) (nI g) (nI k) = nI r ∧ vl V r ∧ dn r = itf (dn f) (dn g) (dn k) := by
  have bf := tn_lt h hf
  have bg := tn_lt h hg
  have bk := tn_lt h hk
  have h2 := h.2.1.2.1
  unfold j_pickB
  by_cases c1 : f = 1
  · rw [if_pos (by rw [c1]; rfl)]
    refine ⟨g, rfl, hg, ?_⟩
    rw [c1, h2.2.2.2]; rfl
  · rw [if_neg (fun q => c1 ((nI_q1 bf).mp q))]
    by_cases c2 : g = k
    · rw [if_pos (by rw [c2])]
      refine ⟨g, rfl, hg, ?_⟩
      rw [c2]; funext a; unfold itf; cases dn f a <;> rfl
    · rw [if_neg (fun q => c2 ((nI_qq bg bk).mp q))]
      by_cases c3 : f = 0
      · rw [if_pos (by rw [c3]; rfl)]
        refine ⟨k, rfl, hk, ?_⟩
        rw [c3, h2.2.2.1]; rfl
      · rw [if_neg (fun q => c3 ((nI_q0 bf).mp q))]
        refine ⟨f, rfl, hf, ?_⟩
        rcases hc with q | q | q | ⟨q1, q2⟩
        · exact absurd q c1
        · exact absurd q c2
        · exact absurd q c3
        · rw [q1, q2, h2.2.2.1, h2.2.2.2]; funext a; unfold itf; cases dn f a <;> rfl
theorem PP_grow {A' : Am} {V' : Nat → Bool} {dn' : Nat → Bf} (hg : grow A V dn A' V' dn') {a b c r : Int32} (h : PP V dn a b c r) : PP V' dn' a b c r := by
  obtain ⟨f, g, k, q, e1, e2, e3, e4, v1, v2, v3, v4, e⟩ := h
  obtain ⟨a1, a2, -⟩ := hg.1 f v1
  obtain ⟨b1, b2, -⟩ := hg.1 g v2
  obtain ⟨c1, c2, -⟩ := hg.1 k v3
  obtain ⟨d1, d2, -⟩ := hg.1 q v4
  exact ⟨f, g, k, q, e1, e2, e3, e4, a1, b1, c1, d1, by rw [a2, b2, c2, d2, e]⟩
theorem neg1 {k : Nat} (hk : k < 24800) : ¬ nI k = -1 := fun e => by
  have a := nI_toInt (n := k) (by omega)
  rw [e] at a
  have : (-1 : Int32).toInt = -1 := by decide
  omega
end
set_option maxHeartbeats 1000000 in
theorem pick_spec {ext : Nat → Nat} {ag : Nat} {X : (Nat → Bool) → (Nat → Bf) → Int32 → Int32 → Int32 → Int32 → Prop} (X1 : ∀ V dn a b c r, X V dn a b c r → c = -1) (X2 : ∀ A V dn A' V' dn' a b c r, grow A V dn A' V' dn' → X V dn a b c r → X V' dn' a b c r) :
    ∀ (d : Nat) (N E : Mm) (A : Am) (V : Nat → Bool) (dn : Nat → Bf) (ch : Nat → List Nat) (fl : List Nat) (f g k : Nat), mr N A → tn A V dn ch fl ext → me E ag (fun a b c r => PP V dn a b c r ∨ X V dn a b c r) → vl V f → vl V g → vl V k → 12 ≤ d + A 7 (A 0 f) → 12 ≤ d + A 7 (A 0 g) → 12 ≤ d + A 7 (A 0 k) → tp A V + bud d + 256 ≤ A 9 0 →
    ∃ (N' E' : Mm) (A' : Am) (V' : Nat → Bool) (dn' : Nat → Bf) (ch' : Nat → List Nat) (fl' : List Nat) (r : Nat), j_pick d N E (nI f) (nI g) (nI k) = (N', E', nI r) ∧ mr N' A' ∧ tn A' V' dn' ch' fl' ext ∧ me E' ag (fun a b c r => PP V' dn' a b c r ∨ X V' dn' a b c r) ∧ grow A V dn A' V' dn' ∧ vl V' r ∧ dn' r = itf (dn f) (dn g) (dn k) ∧ tp A' V' ≤ tp A V + bud d := by
  intro d
  induction d with
  | zero =>
    intro N E A V dn ch fl f g k hm h he hf hg hk l1 l2 l3 hb
    have hf1 : f ≤ 1 := by
      rcases hf with q | q
      · exact q
      · have := lp_lt h.1 (h.2.1.1 f q).2.1
        omega
    obtain ⟨r, r1, r2, r3⟩ := pickB_spec h hf hg hk (by omega)
    exact ⟨N, E, A, V, dn, ch, fl, r, by rw [pick_0, r1], hm, h, he, grow_rf _ _ _, r2, r3, Nat.le_add_right _ _⟩
  | succ d ih =>
    intro N E A V dn ch fl f g k hm h he hf hg hk l1 l2 l3 hb
    have bf := tn_lt h hf
    have bg := tn_lt h hg
    have bk := tn_lt h hk
    have hiff : (nI f = 1 ∨ nI g = nI k ∨ nI f = 0 ∨ (nI g = 1 ∧ nI k = 0)) ↔ (f = 1 ∨ g = k ∨ f = 0 ∨ (g = 1 ∧ k = 0)) := by
      rw [nI_q1 bf, nI_qq bg bk, nI_q0 bf, nI_q1 bg, nI_q0 bk]
    by_cases c0 : f = 1 ∨ g = k ∨ f = 0 ∨ (g = 1 ∧ k = 0)
    · obtain ⟨r, r1, r2, r3⟩ := pickB_spec h hf hg hk c0
      exact ⟨N, E, A, V, dn, ch, fl, r, by rw [pick_b (hiff.mpr c0), r1], hm, h, he, grow_rf _ _ _, r2, r3, Nat.le_add_right _ _⟩
    · have fV : V f = true := by
        rcases hf with q | q
        · omega
        · exact q
      rcases me_ask he (nI f) (nI g) (nI k) with ea | ea
      · obtain ⟨v, ev, hv, o1, o2, o3, o4⟩ := first_spec hm h fV hg hk
        obtain ⟨f1, -, f3, f4, f5, f6, f7⟩ := low_spec hm h hf hv o1
        obtain ⟨g1, -, g3, g4, g5, g6, g7⟩ := low_spec hm h hg hv o2
        obtain ⟨k1, -, k3, k4, k5, k6, k7⟩ := low_spec hm h hk hv o3
        have hlev : 12 ≤ d + 1 + A 7 v := by omega
        obtain ⟨bd1, bd2⟩ := bud_le hlev
        obtain ⟨N1, E1, A1, V1, dn1, ch1, fl1, r1, hp1, a2, a3, a4, a5, a6, a7, a8⟩ := ih N E A V dn ch fl _ _ _ hm h he f3 g3 k3 (by omega) (by omega) (by omega) (by omega)
        obtain ⟨s1, s2, s3, s4, s5⟩ := id a5
        obtain ⟨uf1, uf2, uf3, uf4, uf5⟩ := s1 f hf
        obtain ⟨ug1, ug2, ug3, ug4, ug5⟩ := s1 g hg
        obtain ⟨uk1, uk2, uk3, uk4, uk5⟩ := s1 k hk
        have ef : hw A1 v f = hw A v f := by unfold hw; rw [uf3, uf5]
        have eg : hw A1 v g = hw A v g := by unfold hw; rw [ug3, ug5]
        have ek : hw A1 v k = hw A v k := by unfold hw; rw [uk3, uk5]
        obtain ⟨-, f2', -⟩ := low_spec a2 a3 uf1 hv (by rw [s2, uf3]; exact o1)
        obtain ⟨-, g2', -⟩ := low_spec a2 a3 ug1 hv (by rw [s2, ug3]; exact o2)
        obtain ⟨-, k2', -⟩ := low_spec a2 a3 uk1 hv (by rw [s2, uk3]; exact o3)
        rw [ef] at f2'
        rw [eg] at g2'
        rw [ek] at k2'
        obtain ⟨tf1, tf2, tf3, -⟩ := s1 _ f4
        obtain ⟨tg1, tg2, tg3, -⟩ := s1 _ g4
        obtain ⟨tk1, tk2, tk3, -⟩ := s1 _ k4
        obtain ⟨N2, E2, A2, V2, dn2, ch2, fl2, r2, hp2, b2, b3, b4, b5, b6, b7, b8⟩ := ih N1 E1 A1 V1 dn1 ch1 fl1 _ _ _ a2 a3 a4 tf1 tg1 tk1 (by rw [s2, tf3]; omega) (by rw [s2, tg3]; omega) (by rw [s2, tk3]; omega) (by rw [s4]; omega)
        obtain ⟨w1, w2, w3, w4, w5⟩ := id b5
        obtain ⟨x1, x2, -⟩ := w1 r1 a6
        have n1 : ∀ x, x < 12 → A2 7 x < A 7 v + 1 → ind (dn2 r1) x := fun x _ hx => by
          rw [w2, s2] at hx
          rw [x2, a7]
          exact itf_ind (gi_ind h.2.1 h.1 f3 (by rw [rk_f rfl]; omega)) (gi_ind h.2.1 h.1 g3 (by rw [rk_f rfl]; omega)) (gi_ind h.2.1 h.1 k3 (by rw [rk_f rfl]; omega))
        have n2 : ∀ x, x < 12 → A2 7 x < A 7 v + 1 → ind (dn2 r2) x := fun x _ hx => by
          rw [w2, s2] at hx
          rw [b7, tf2, tg2, tk2]
          exact itf_ind (gi_ind h.2.1 h.1 f4 (by rw [rk_f rfl]; omega)) (gi_ind h.2.1 h.1 g4 (by rw [rk_f rfl]; omega)) (gi_ind h.2.1 h.1 k4 (by rw [rk_f rfl]; omega))
        have lv12 := lp_lt h.1 hv
        have m1 := gi_lev b3.2.1 b3.1 x1 n1 (by omega)
        have m2 := gi_lev b3.2.1 b3.1 b6 n2 (by omega)
        have e27 : A2 7 v = A 7 v := by rw [w2, s2]
        obtain ⟨N3, A3, V3, dn3, ch3, fl3, r3, c1, c2, c3, c4, c5, c6, c7⟩ := make_tn b2 b3 hv x1 b6 (by rw [e27]; omega) (by rw [e27]; omega) (by rw [e27, w4, s4]; omega)
        have hg3 : grow A V dn A3 V3 dn3 := grow_tr a5 (grow_tr b5 c4)
        have hres : dn3 r3 = itf (dn f) (dn g) (dn k) := by
          rw [c6, x2, a7, b7, tf2, tg2, tk2, f7, g7, k7, itf_mk]
        have ej := pick_r (d := d) (N := N) (E := E) (N1 := N1) (E1 := E1) (N2 := N2) (E2 := E2) (f := nI f) (g := nI g) (h := nI k) (v := nI v) (low := nI r1) (high := nI r2) (fun z => c0 (hiff.mp z)) ea ev (by rw [f1, g1, k1]; exact hp1) (by rw [f2', g2', k2']; exact hp2) c1
        obtain ⟨yf1, yf2, -⟩ := hg3.1 f hf
        obtain ⟨yg1, yg2, -⟩ := hg3.1 g hg
        obtain ⟨yk1, yk2, -⟩ := hg3.1 k hk
        refine ⟨N3, _, A3, V3, dn3, ch3, fl3, r3, ej, c2, c3, ?_, hg3, c5, hres, ?_⟩
        · refine me_keep (me_mono b4 (fun a b c r hh => ?_)) (Or.inl ⟨f, g, k, r3, rfl, rfl, rfl, rfl, yf1, yg1, yk1, c5, by rw [yf2, yg2, yk2]; exact hres⟩)
          rcases hh with hh | hh
          · exact Or.inl (PP_grow c4 hh)
          · exact Or.inr (X2 _ _ _ _ _ _ _ _ _ _ c4 hh)
        · rw [e27] at c7; omega
      · rcases ea with ⟨f', g', k', r, e1, e2, e3, e4, v1, v2, v3, v4, e⟩ | ea
        · have bf' := tn_lt h v1
          have bg' := tn_lt h v2
          have bk' := tn_lt h v3
          have br := tn_lt h v4
          have q1 := (nI_qq bf bf').mp e1
          have q2 := (nI_qq bg bg').mp e2
          have q3 := (nI_qq bk bk').mp e3
          subst q1; subst q2; subst q3
          exact ⟨N, E, A, V, dn, ch, fl, r, by rw [pick_m (fun z => c0 (hiff.mp z)) (by rw [e4]; exact neg1 br), e4], hm, h, he, grow_rf _ _ _, v4, e, Nat.le_add_right _ _⟩
        · exact absurd (X1 _ _ _ _ _ _ ea) (neg1 bk)
end
section
/-! THE WORLD of the class's cells, and what a contract of Nodes begins with. -/
abbrev cls0 : List vw_C := [(R_S, T_S, 4), (R_N, T_N, 11), (R_A, T_A, 2), (R_M, T_M, 2), (R_F, T_F, 1), (R_R, T_R, 4)]
/-- the six cells of a Nodes: the object at a 0, rows at a 1, heads a 2, held a 3, levels a 4, variables a 5 -/
abbrev nW (cI : ClassId) (a : Nat → Nat) (N : Mm) : va_W := [(a 0, .inr (1, [.ref (a 1), .ref (a 2), .ref (a 3), .ref (a 4), .ref (a 5), .int (N 0 0), .int (N 0 1), .int (N 0 2), .int (N 0 3), .int (N 0 4), .int (N 0 5)])), (a 1, .inl (cI, jlen N, .inl (N 1))), (a 2, .inl (cI, 768, .inl (N 2))), (a 3, .inl (cI, 12, .inl (N 3))), (a 4, .inl (cI, 13, .inl (N 4))), (a 5, .inl (cI, 13, .inl (N 5)))]
def r00 : Room := { frames := 0, cells := 0, slots := 0, locals := 0 }
def nR (dC : Nat → ClassId) (dI : Nat → Nat → Nat) (cI : ClassId) (a : Nat → Nat) (N : Mm) (U : State) : Prop := va_P (dC, dI) cls0 (nW cI a N) U.heap ∧ va_K (dC, dI) cls0 [(cI, .int)] U
theorem nR_call {dC : Nat → ClassId} {dI : Nat → Nat → Nat} {cI : ClassId} {a : Nat → Nat} {N : Mm} (av : List Value) : FrameBlind (va_Pc av (nR dC dI cI a N)) := fun a U g mk q => by
  obtain ⟨q0, qP, qK⟩ := q
  exact ⟨q0, qP, va_K.moved (u := U) (U := U.calling g mk a) (Vm.Alike.refl U.vm) qK⟩
theorem lt_of_in {x : Int32} {n : Nat} (h0 : ¬ x < 0) (h1 : ¬ nI n ≤ x) (hn : n < 2 ^ 31) : vp_in x n := by
  rcases pk_ix x hn with q | q | ⟨j, h, rfl⟩
  · exact absurd q h0
  · exact absurd q h1
  · exact vp_in_nI h hn
def nM (dC : Nat → ClassId) (dI : Nat → Nat → Nat) (cI : ClassId) (a : Nat → Nat) (N : Mm) (sz : Nat) (U : State) : Prop := U.heap.size = sz ∧ va_P (dC, dI) cls0 (nW cI a N) U.heap ∧ va_K (dC, dI) cls0 [(cI, .int)] U ∧ va_D (fun _ => True) (nW cI a N)
theorem nM_call {dC : Nat → ClassId} {dI : Nat → Nat → Nat} {cI : ClassId} {a : Nat → Nat} {N : Mm} {sz : Nat} (av : List Value) : FrameBlind (va_Pc av (nM dC dI cI a N sz)) := fun a U g mk q => by
  obtain ⟨q0, q1, qP, qK, qD⟩ := q
  exact ⟨q0, q1, qP, va_K.moved (u := U) (U := U.calling g mk a) (Vm.Alike.refl U.vm) qK, qD⟩
def nE (dC : Nat → ClassId) (dI : Nat → Nat → Nat) (cI : ClassId) (a : Nat → Nat) (N : Mm) (A : Nat → Prop) (t : State) : Prop := va_P (dC, dI) cls0 (nW cI a N) t.heap ∧ va_K (dC, dI) cls0 [(cI, .int)] t ∧ va_D A (nW cI a N)
section NCALL
variable {p : Program} {l : Launch} {e : Env} {R : Room} {s : State} {m : MethodId} {args : Array Value} {below : List Frame} {meth : Method} {c : Code} {H H0 : Heap} {locs : List Loc} {cells slots : Nat} {Q : State → Prop} {cc bytes : ByteArray} {pc maxL nL n index : Nat} {ls : Array Slot} {st rest As : List Value} {A0 : Nat → Prop} {y : MethodName} {cy : Cond} {ret : Option FieldType} {rm : Room} {dC : Nat → ClassId} {dI : Nat → Nat → Nat} {cI : ClassId} {a : Nat → Nat} {N N' : Mm}
/-- a method of Nodes calls one that reads -/
theorem nCallR {r : Int32} (S : CallFix p m c cc nL s args W0 R_N) (hM : Met l y (cy :: W0) rm (va_Pc (.ref (a 0) :: As) (nR dC dI cI a N)) (QcRead r) 0 0 (fun _ => False)) (cw : CallW R s args R_N R_N index y bytes maxL ret (cy :: W0) rm 0 0 n) (hP : va_P (dC, dI) cls0 (nW cI a N) H) (hK : va_K (dC, dI) cls0 [(cI, .int)] s) (hn : As.length = n) (hsz : ls.size = nL) (hst : st = As.reverse ++ .ref (a 0) :: rest) (hW : (rest.map fun v => v.category).sum ≤ 8) (hdg : decode cc pc = .ok (.invokevirtual index, 3)) (hf : cells ≤ R.cells ∧ slots ≤ R.slots)
    (kk : W p l e R s m args below meth c H locs cells slots Q (F0 m (pc + 3) ls (.int r :: rest))) : W p l e R s m args below meth c H locs cells slots Q (F0 m pc ls st) := by
  subst hst
  exact W.callR (W.runV (As := As) (rest := rest) (g := F0 m pc ls (As.reverse ++ .ref (a 0) :: rest)) S hM cw ⟨nR_call _, va_recv hK hP (ci := 1) (q0 := 0) rfl rfl, fun U hU hWu => ⟨rfl, by rw [hU]; exact hP, va_K.moved hWu.alike hK⟩⟩ rfl hn hsz rfl (lv_room hW) hdg hf) kk
/-- a method of Nodes calls one that writes and answers nothing -/
theorem nCallv (S : CallFix p m c cc nL s args W0 R_N) (hM : Met l y (cy :: W0) rm (va_Pc (.ref (a 0) :: As) (nM dC dI cI a N H.size)) (va_Qv (fun _ : Unit => True) (fun _ t => nE dC dI cI a N' (va_A (nW cI a N) H.size) t) (va_A (nW cI a N) H.size)) 0 0 (va_A (nW cI a N) H.size)) (cw : CallW R s args R_N R_N index y bytes maxL none (cy :: W0) rm 0 0 n) (hP : va_P (dC, dI) cls0 (nW cI a N) H) (hK : va_K (dC, dI) cls0 [(cI, .int)] s) (hD : va_D A0 (nW cI a N)) (hS : va_S A0 H0 H locs) (hA : ∀ q, H0.size ≤ q → A0 q) (hn : As.length = n) (hsz : ls.size = nL) (hst : st = As.reverse ++ .ref (a 0) :: rest) (hW : (rest.map fun v => v.category).sum ≤ 8) (hdg : decode cc pc = .ok (.invokevirtual index, 3)) (hf : cells ≤ R.cells ∧ slots ≤ R.slots)
    (kk : ∀ (H1 : Heap) (locs1 : List Loc), va_P (dC, dI) cls0 (nW cI a N') H1 → va_D A0 (nW cI a N') → va_S A0 H0 H1 locs1 → W p l e R s m args below meth c H1 locs1 cells slots Q (F0 m (pc + 3) ls rest)) : W p l e R s m args below meth c H locs cells slots Q (F0 m pc ls st) := by
  subst hst
  have hFc := va_free (wc := nW cI a N) hD hS hA [0, 1, 2, 3, 4, 5] rfl
  refine va_callv (va_runV (As := As) (rest := rest) (g := F0 m pc ls (As.reverse ++ .ref (a 0) :: rest)) S hM cw ⟨nM_call _, va_recv hK hP (ci := 1) (q0 := 0) rfl rfl, fun U hU hWu => ⟨rfl, by rw [hU], by rw [hU]; exact hP, va_K.moved hWu.alike hK, hD.weaken (fun _ _ _ _ => trivial)⟩⟩ rfl hn hsz rfl (lv_room hW) hdg hf) hS (fun q _ h => hFc q h) hFc (fun u t H1 locs1 ht hvm hw hB hz1 hk1 hS1 => ?_)
  obtain ⟨hP1, hK1, hD1⟩ := hB
  rw [ht] at hP1
  obtain ⟨hP2, hD2⟩ := va_join (wr := []) (w1 := nW cI a N') hP hD [0, 1, 2, 3, 4, 5] [] rfl rfl (by decide) (by decide) hk1 hFc hP1 hD1
  exact kk H1 locs1 hP2 hD2 hS1
/-- .. one that writes and answers a number -/
theorem nCalli {r : Int32} (S : CallFix p m c cc nL s args W0 R_N) (hM : Met l y (cy :: W0) rm (va_Pc (.ref (a 0) :: As) (nM dC dI cI a N H.size)) (va_Qi (fun (z : Int32) (_ : Unit) => z = r) (fun _ t => nE dC dI cI a N' (va_A (nW cI a N) H.size) t) (va_A (nW cI a N) H.size)) 0 0 (va_A (nW cI a N) H.size)) (cw : CallW R s args R_N R_N index y bytes maxL ret (cy :: W0) rm 0 0 n) (hP : va_P (dC, dI) cls0 (nW cI a N) H) (hK : va_K (dC, dI) cls0 [(cI, .int)] s) (hD : va_D A0 (nW cI a N)) (hS : va_S A0 H0 H locs) (hA : ∀ q, H0.size ≤ q → A0 q) (hn : As.length = n) (hsz : ls.size = nL) (hst : st = As.reverse ++ .ref (a 0) :: rest) (hW : (rest.map fun v => v.category).sum ≤ 8) (hdg : decode cc pc = .ok (.invokevirtual index, 3)) (hf : cells ≤ R.cells ∧ slots ≤ R.slots)
    (kk : ∀ (H1 : Heap) (locs1 : List Loc), va_P (dC, dI) cls0 (nW cI a N') H1 → va_D A0 (nW cI a N') → va_S A0 H0 H1 locs1 → W p l e R s m args below meth c H1 locs1 cells slots Q (F0 m (pc + 3) ls (.int r :: rest))) : W p l e R s m args below meth c H locs cells slots Q (F0 m pc ls st) := by
  subst hst
  have hFc := va_free (wc := nW cI a N) hD hS hA [0, 1, 2, 3, 4, 5] rfl
  refine va_calli (va_runV (As := As) (rest := rest) (g := F0 m pc ls (As.reverse ++ .ref (a 0) :: rest)) S hM cw ⟨nM_call _, va_recv hK hP (ci := 1) (q0 := 0) rfl rfl, fun U hU hWu => ⟨rfl, by rw [hU], by rw [hU]; exact hP, va_K.moved hWu.alike hK, hD.weaken (fun _ _ _ _ => trivial)⟩⟩ rfl hn hsz rfl (lv_room hW) hdg hf) hS (fun q _ h => hFc q h) hFc (fun z u t H1 locs1 ht hvm hw hB hz1 hk1 hS1 => ?_)
  obtain ⟨hP1, hK1, hD1⟩ := hB
  rw [ht] at hP1
  subst hw
  obtain ⟨hP2, hD2⟩ := va_join (wr := []) (w1 := nW cI a N') hP hD [0, 1, 2, 3, 4, 5] [] rfl rfl (by decide) (by decide) hk1 hFc hP1 hD1
  exact kk H1 locs1 hP2 hD2 hS1
end NCALL
theorem js_k {N : Mm} {a b x : Int32} {k : Nat} (h : k ≠ 1) : j_set N a b x k = N k := by
  unfold j_set
  by_cases c1 : a * 5 + b < 0
  · rw [if_pos c1]
  · rw [if_neg c1]
    by_cases c2 : nI (jlen N) ≤ a * 5 + b
    · rw [if_pos c2]
    · rw [if_neg c2]; exact fu_n h
theorem js_0 (N : Mm) (a b x : Int32) : j_set N a b x 0 = N 0 := js_k (by decide)
theorem js_2 (N : Mm) (a b x : Int32) : j_set N a b x 2 = N 2 := js_k (by decide)
theorem js_3 (N : Mm) (a b x : Int32) : j_set N a b x 3 = N 3 := js_k (by decide)
section NCALL2
variable {p : Program} {l : Launch} {e : Env} {R : Room} {s : State} {m : MethodId} {args : Array Value} {below : List Frame} {meth : Method} {c : Code} {H : Heap} {locs : List Loc} {cells slots : Nat} {Q : State → Prop} {cc bytes : ByteArray} {pc maxL nL n index : Nat} {ls : Array Slot} {st rest As : List Value} {y : MethodName} {cy : Cond} {ret : Option FieldType} {rm : Room} {own : String}
theorem nCallS {r : Int32} (S : CallFix p m c cc nL s args W0 own) (hM : Met l y (cy :: W0) rm (va_Pc As (fun _ => True)) (QcRead r) 0 0 (fun _ => False)) (cw : CallB R s args own index y bytes maxL ret (cy :: W0) rm 0 0 n ∧ (Cond.static y).before args s = true) (hn : As.length = n) (hsz : ls.size = nL) (hst : st = As.reverse ++ rest) (hW : (rest.map fun v => v.category).sum ≤ 8) (hdg : decode cc pc = .ok (.invokestatic index, 3)) (hf : cells ≤ R.cells ∧ slots ≤ R.slots)
    (kk : W p l e R s m args below meth c H locs cells slots Q (F0 m (pc + 3) ls (.int r :: rest))) : W p l e R s m args below meth c H locs cells slots Q (F0 m pc ls st) := by
  subst hst
  exact W.callR (W.runS (As := As) (rest := rest) (g := F0 m pc ls (As.reverse ++ rest)) S hM cw ⟨fun a U g mk q => ⟨q.1, trivial⟩, fun U hU hWu => ⟨rfl, trivial⟩⟩ rfl hn hsz rfl (lv_room hW) hdg hf) kk
end NCALL2
end
section
/-! what an update leaves, by literal places -/
theorem uq_0_1 (N : Mm) (j : Nat) (x : Int32) : up N 0 j x 1 = N 1 := rfl
theorem uq_0_2 (N : Mm) (j : Nat) (x : Int32) : up N 0 j x 2 = N 2 := rfl
theorem uq_0_3 (N : Mm) (j : Nat) (x : Int32) : up N 0 j x 3 = N 3 := rfl
theorem uq_0_4 (N : Mm) (j : Nat) (x : Int32) : up N 0 j x 4 = N 4 := rfl
theorem uq_0_5 (N : Mm) (j : Nat) (x : Int32) : up N 0 j x 5 = N 5 := rfl
theorem uq_1_0 (N : Mm) (j : Nat) (x : Int32) : up N 1 j x 0 = N 0 := rfl
theorem uq_1_2 (N : Mm) (j : Nat) (x : Int32) : up N 1 j x 2 = N 2 := rfl
theorem uq_1_3 (N : Mm) (j : Nat) (x : Int32) : up N 1 j x 3 = N 3 := rfl
theorem uq_1_4 (N : Mm) (j : Nat) (x : Int32) : up N 1 j x 4 = N 4 := rfl
theorem uq_1_5 (N : Mm) (j : Nat) (x : Int32) : up N 1 j x 5 = N 5 := rfl
theorem uq_2_0 (N : Mm) (j : Nat) (x : Int32) : up N 2 j x 0 = N 0 := rfl
theorem uq_2_1 (N : Mm) (j : Nat) (x : Int32) : up N 2 j x 1 = N 1 := rfl
theorem uq_2_3 (N : Mm) (j : Nat) (x : Int32) : up N 2 j x 3 = N 3 := rfl
theorem uq_2_4 (N : Mm) (j : Nat) (x : Int32) : up N 2 j x 4 = N 4 := rfl
theorem uq_2_5 (N : Mm) (j : Nat) (x : Int32) : up N 2 j x 5 = N 5 := rfl
theorem uq_3_0 (N : Mm) (j : Nat) (x : Int32) : up N 3 j x 0 = N 0 := rfl
theorem uq_3_1 (N : Mm) (j : Nat) (x : Int32) : up N 3 j x 1 = N 1 := rfl
theorem uq_3_2 (N : Mm) (j : Nat) (x : Int32) : up N 3 j x 2 = N 2 := rfl
theorem uq_3_4 (N : Mm) (j : Nat) (x : Int32) : up N 3 j x 4 = N 4 := rfl
theorem uq_3_5 (N : Mm) (j : Nat) (x : Int32) : up N 3 j x 5 = N 5 := rfl
theorem uq_4_0 (N : Mm) (j : Nat) (x : Int32) : up N 4 j x 0 = N 0 := rfl
theorem uq_4_1 (N : Mm) (j : Nat) (x : Int32) : up N 4 j x 1 = N 1 := rfl
theorem uq_4_2 (N : Mm) (j : Nat) (x : Int32) : up N 4 j x 2 = N 2 := rfl
theorem uq_4_3 (N : Mm) (j : Nat) (x : Int32) : up N 4 j x 3 = N 3 := rfl
theorem uq_4_5 (N : Mm) (j : Nat) (x : Int32) : up N 4 j x 5 = N 5 := rfl
theorem uq_5_0 (N : Mm) (j : Nat) (x : Int32) : up N 5 j x 0 = N 0 := rfl
theorem uq_5_1 (N : Mm) (j : Nat) (x : Int32) : up N 5 j x 1 = N 1 := rfl
theorem uq_5_2 (N : Mm) (j : Nat) (x : Int32) : up N 5 j x 2 = N 2 := rfl
theorem uq_5_3 (N : Mm) (j : Nat) (x : Int32) : up N 5 j x 3 = N 3 := rfl
theorem uq_5_4 (N : Mm) (j : Nat) (x : Int32) : up N 5 j x 4 = N 4 := rfl
theorem uf_0_1 (N : Mm) (x : Int32) : up N 0 0 x 0 1 = N 0 1 := rfl
theorem uf_0_2 (N : Mm) (x : Int32) : up N 0 0 x 0 2 = N 0 2 := rfl
theorem uf_0_3 (N : Mm) (x : Int32) : up N 0 0 x 0 3 = N 0 3 := rfl
theorem uf_0_4 (N : Mm) (x : Int32) : up N 0 0 x 0 4 = N 0 4 := rfl
theorem uf_0_5 (N : Mm) (x : Int32) : up N 0 0 x 0 5 = N 0 5 := rfl
theorem uf_0_0 (N : Mm) (x : Int32) : up N 0 0 x 0 0 = x := rfl
theorem uf_1_0 (N : Mm) (x : Int32) : up N 0 1 x 0 0 = N 0 0 := rfl
theorem uf_1_2 (N : Mm) (x : Int32) : up N 0 1 x 0 2 = N 0 2 := rfl
theorem uf_1_3 (N : Mm) (x : Int32) : up N 0 1 x 0 3 = N 0 3 := rfl
theorem uf_1_4 (N : Mm) (x : Int32) : up N 0 1 x 0 4 = N 0 4 := rfl
theorem uf_1_5 (N : Mm) (x : Int32) : up N 0 1 x 0 5 = N 0 5 := rfl
theorem uf_1_1 (N : Mm) (x : Int32) : up N 0 1 x 0 1 = x := rfl
theorem uf_2_0 (N : Mm) (x : Int32) : up N 0 2 x 0 0 = N 0 0 := rfl
theorem uf_2_1 (N : Mm) (x : Int32) : up N 0 2 x 0 1 = N 0 1 := rfl
theorem uf_2_3 (N : Mm) (x : Int32) : up N 0 2 x 0 3 = N 0 3 := rfl
theorem uf_2_4 (N : Mm) (x : Int32) : up N 0 2 x 0 4 = N 0 4 := rfl
theorem uf_2_5 (N : Mm) (x : Int32) : up N 0 2 x 0 5 = N 0 5 := rfl
theorem uf_2_2 (N : Mm) (x : Int32) : up N 0 2 x 0 2 = x := rfl
theorem uf_3_0 (N : Mm) (x : Int32) : up N 0 3 x 0 0 = N 0 0 := rfl
theorem uf_3_1 (N : Mm) (x : Int32) : up N 0 3 x 0 1 = N 0 1 := rfl
theorem uf_3_2 (N : Mm) (x : Int32) : up N 0 3 x 0 2 = N 0 2 := rfl
theorem uf_3_4 (N : Mm) (x : Int32) : up N 0 3 x 0 4 = N 0 4 := rfl
theorem uf_3_5 (N : Mm) (x : Int32) : up N 0 3 x 0 5 = N 0 5 := rfl
theorem uf_3_3 (N : Mm) (x : Int32) : up N 0 3 x 0 3 = x := rfl
theorem uf_4_0 (N : Mm) (x : Int32) : up N 0 4 x 0 0 = N 0 0 := rfl
theorem uf_4_1 (N : Mm) (x : Int32) : up N 0 4 x 0 1 = N 0 1 := rfl
theorem uf_4_2 (N : Mm) (x : Int32) : up N 0 4 x 0 2 = N 0 2 := rfl
theorem uf_4_3 (N : Mm) (x : Int32) : up N 0 4 x 0 3 = N 0 3 := rfl
theorem uf_4_5 (N : Mm) (x : Int32) : up N 0 4 x 0 5 = N 0 5 := rfl
theorem uf_4_4 (N : Mm) (x : Int32) : up N 0 4 x 0 4 = x := rfl
theorem uf_5_0 (N : Mm) (x : Int32) : up N 0 5 x 0 0 = N 0 0 := rfl
theorem uf_5_1 (N : Mm) (x : Int32) : up N 0 5 x 0 1 = N 0 1 := rfl
theorem uf_5_2 (N : Mm) (x : Int32) : up N 0 5 x 0 2 = N 0 2 := rfl
theorem uf_5_3 (N : Mm) (x : Int32) : up N 0 5 x 0 3 = N 0 3 := rfl
theorem uf_5_4 (N : Mm) (x : Int32) : up N 0 5 x 0 4 = N 0 4 := rfl
theorem uf_5_5 (N : Mm) (x : Int32) : up N 0 5 x 0 5 = x := rfl
theorem js_4 (N : Mm) (a b x : Int32) : j_set N a b x 4 = N 4 := js_k (by decide)
theorem js_5 (N : Mm) (a b x : Int32) : j_set N a b x 5 = N 5 := js_k (by decide)
end
section
/-! stores into the cells of a Nodes, said of its numbers N -/
section NST
variable {p : Program} {l : Launch} {e : Env} {R : Room} {s : State} {m : MethodId} {args : Array Value} {below : List Frame} {meth : Method} {c : Code} {H H0 : Heap} {locs : List Loc} {cells slots : Nat} {Q : State → Prop} {cc : ByteArray} {pc index : Nat} {ls : Array Slot} {rest : List Value} {A : Nat → Prop} {dC : Nat → ClassId} {dI : Nat → Nat → Nat} {cI : ClassId} {a : Nat → Nat} {N : Mm} {x i : Int32}
theorem nAst1 (hx : p.tables.exec = Jvm.exec) (hb : c.code = cc) (hK : va_K (dC, dI) cls0 [(cI, .int)] s) (hP : va_P (dC, dI) cls0 (nW cI a N) H) (hD : va_D A (nW cI a N)) (hS : va_S A H0 H locs) (hin : vp_in i (jlen N)) (hdg : decode cc pc = .ok (.iastore, 1))
    (kk : ∀ (H1 : Heap) (locs1 : List Loc), va_P (dC, dI) cls0 (nW cI a (up N 1 i.toNatClampNeg x)) H1 → va_D A (nW cI a (up N 1 i.toNatClampNeg x)) → va_S A H0 H1 locs1 → W p l e R s m args below meth c H1 locs1 cells slots Q (F0 m (pc + 1) ls rest)) : W p l e R s m args below meth c H locs cells slots Q (F0 m pc ls (.int x :: .int i :: .ref (a 1) :: rest)) :=
  va_iast hx hb hK hP hD hS 1 0 rfl rfl hin hdg (fun H1 locs1 h1 h2 h3 => kk H1 locs1 h1 h2 h3)
theorem nAst2 (hx : p.tables.exec = Jvm.exec) (hb : c.code = cc) (hK : va_K (dC, dI) cls0 [(cI, .int)] s) (hP : va_P (dC, dI) cls0 (nW cI a N) H) (hD : va_D A (nW cI a N)) (hS : va_S A H0 H locs) (hin : vp_in i 768) (hdg : decode cc pc = .ok (.iastore, 1))
    (kk : ∀ (H1 : Heap) (locs1 : List Loc), va_P (dC, dI) cls0 (nW cI a (up N 2 i.toNatClampNeg x)) H1 → va_D A (nW cI a (up N 2 i.toNatClampNeg x)) → va_S A H0 H1 locs1 → W p l e R s m args below meth c H1 locs1 cells slots Q (F0 m (pc + 1) ls rest)) : W p l e R s m args below meth c H locs cells slots Q (F0 m pc ls (.int x :: .int i :: .ref (a 2) :: rest)) :=
  va_iast hx hb hK hP hD hS 2 0 rfl rfl hin hdg (fun H1 locs1 h1 h2 h3 => kk H1 locs1 h1 h2 h3)
theorem nAst3 (hx : p.tables.exec = Jvm.exec) (hb : c.code = cc) (hK : va_K (dC, dI) cls0 [(cI, .int)] s) (hP : va_P (dC, dI) cls0 (nW cI a N) H) (hD : va_D A (nW cI a N)) (hS : va_S A H0 H locs) (hin : vp_in i 12) (hdg : decode cc pc = .ok (.iastore, 1))
    (kk : ∀ (H1 : Heap) (locs1 : List Loc), va_P (dC, dI) cls0 (nW cI a (up N 3 i.toNatClampNeg x)) H1 → va_D A (nW cI a (up N 3 i.toNatClampNeg x)) → va_S A H0 H1 locs1 → W p l e R s m args below meth c H1 locs1 cells slots Q (F0 m (pc + 1) ls rest)) : W p l e R s m args below meth c H locs cells slots Q (F0 m pc ls (.int x :: .int i :: .ref (a 3) :: rest)) :=
  va_iast hx hb hK hP hD hS 3 0 rfl rfl hin hdg (fun H1 locs1 h1 h2 h3 => kk H1 locs1 h1 h2 h3)
theorem nAst4 (hx : p.tables.exec = Jvm.exec) (hb : c.code = cc) (hK : va_K (dC, dI) cls0 [(cI, .int)] s) (hP : va_P (dC, dI) cls0 (nW cI a N) H) (hD : va_D A (nW cI a N)) (hS : va_S A H0 H locs) (hin : vp_in i 13) (hdg : decode cc pc = .ok (.iastore, 1))
    (kk : ∀ (H1 : Heap) (locs1 : List Loc), va_P (dC, dI) cls0 (nW cI a (up N 4 i.toNatClampNeg x)) H1 → va_D A (nW cI a (up N 4 i.toNatClampNeg x)) → va_S A H0 H1 locs1 → W p l e R s m args below meth c H1 locs1 cells slots Q (F0 m (pc + 1) ls rest)) : W p l e R s m args below meth c H locs cells slots Q (F0 m pc ls (.int x :: .int i :: .ref (a 4) :: rest)) :=
  va_iast hx hb hK hP hD hS 4 0 rfl rfl hin hdg (fun H1 locs1 h1 h2 h3 => kk H1 locs1 h1 h2 h3)
theorem nAst5 (hx : p.tables.exec = Jvm.exec) (hb : c.code = cc) (hK : va_K (dC, dI) cls0 [(cI, .int)] s) (hP : va_P (dC, dI) cls0 (nW cI a N) H) (hD : va_D A (nW cI a N)) (hS : va_S A H0 H locs) (hin : vp_in i 13) (hdg : decode cc pc = .ok (.iastore, 1))
    (kk : ∀ (H1 : Heap) (locs1 : List Loc), va_P (dC, dI) cls0 (nW cI a (up N 5 i.toNatClampNeg x)) H1 → va_D A (nW cI a (up N 5 i.toNatClampNeg x)) → va_S A H0 H1 locs1 → W p l e R s m args below meth c H1 locs1 cells slots Q (F0 m (pc + 1) ls rest)) : W p l e R s m args below meth c H locs cells slots Q (F0 m pc ls (.int x :: .int i :: .ref (a 5) :: rest)) :=
  va_iast hx hb hK hP hD hS 5 0 rfl rfl hin hdg (fun H1 locs1 h1 h2 h3 => kk H1 locs1 h1 h2 h3)
theorem nPut1 (hx : p.tables.exec = Jvm.exec) (hb : c.code = cc) (hts : ∀ w ∈ W0, w.before args s = true) (hown : s.vm.findClass R_N = some m.cls) (hK : va_K (dC, dI) cls0 [(cI, .int)] s) (hP : va_P (dC, dI) cls0 (nW cI a N) H) (hD : va_D A (nW cI a N)) (hS : va_S A H0 H locs) (hk : Cond.fieldLink R_N index "DiagramStore$Nodes" "used" "I" ∈ W0) (hdg : decode cc pc = .ok (.putfield index, 3))
    (kk : ∀ (H1 : Heap) (locs1 : List Loc), va_P (dC, dI) cls0 (nW cI a (up N 0 1 x)) H1 → va_D A (nW cI a (up N 0 1 x)) → va_S A H0 H1 locs1 → W p l e R s m args below meth c H1 locs1 cells slots Q (F0 m (pc + 3) ls rest)) : W p l e R s m args below meth c H locs cells slots Q (F0 m pc ls (.int x :: .ref (a 0) :: rest)) :=
  va_put (D := (dC, dI)) (ci := 1) (v := .int x) (ty := .int) (C := R_N) (T := T_N) (N := 11) hx hb hts in_N ty_N tk_N nm_N hown hK hP hD hS 0 rfl rfl 6 (by decide) (hts _ hk) (fun _ h9 => h9) rfl (by decide +kernel) rfl rfl (Nat.le_of_ble_eq_true rfl) hdg (fun H1 locs1 h1 h2 h3 => kk H1 locs1 h1 h2 h3)
theorem nPut2 (hx : p.tables.exec = Jvm.exec) (hb : c.code = cc) (hts : ∀ w ∈ W0, w.before args s = true) (hown : s.vm.findClass R_N = some m.cls) (hK : va_K (dC, dI) cls0 [(cI, .int)] s) (hP : va_P (dC, dI) cls0 (nW cI a N) H) (hD : va_D A (nW cI a N)) (hS : va_S A H0 H locs) (hk : Cond.fieldLink R_N index "DiagramStore$Nodes" "free" "I" ∈ W0) (hdg : decode cc pc = .ok (.putfield index, 3))
    (kk : ∀ (H1 : Heap) (locs1 : List Loc), va_P (dC, dI) cls0 (nW cI a (up N 0 2 x)) H1 → va_D A (nW cI a (up N 0 2 x)) → va_S A H0 H1 locs1 → W p l e R s m args below meth c H1 locs1 cells slots Q (F0 m (pc + 3) ls rest)) : W p l e R s m args below meth c H locs cells slots Q (F0 m pc ls (.int x :: .ref (a 0) :: rest)) :=
  va_put (D := (dC, dI)) (ci := 1) (v := .int x) (ty := .int) (C := R_N) (T := T_N) (N := 11) hx hb hts in_N ty_N tk_N nm_N hown hK hP hD hS 0 rfl rfl 7 (by decide) (hts _ hk) (fun _ h9 => h9) rfl (by decide +kernel) rfl rfl (Nat.le_of_ble_eq_true rfl) hdg (fun H1 locs1 h1 h2 h3 => kk H1 locs1 h1 h2 h3)
theorem nPut3 (hx : p.tables.exec = Jvm.exec) (hb : c.code = cc) (hts : ∀ w ∈ W0, w.before args s = true) (hown : s.vm.findClass R_N = some m.cls) (hK : va_K (dC, dI) cls0 [(cI, .int)] s) (hP : va_P (dC, dI) cls0 (nW cI a N) H) (hD : va_D A (nW cI a N)) (hS : va_S A H0 H locs) (hk : Cond.fieldLink R_N index "DiagramStore$Nodes" "size" "I" ∈ W0) (hdg : decode cc pc = .ok (.putfield index, 3))
    (kk : ∀ (H1 : Heap) (locs1 : List Loc), va_P (dC, dI) cls0 (nW cI a (up N 0 3 x)) H1 → va_D A (nW cI a (up N 0 3 x)) → va_S A H0 H1 locs1 → W p l e R s m args below meth c H1 locs1 cells slots Q (F0 m (pc + 3) ls rest)) : W p l e R s m args below meth c H locs cells slots Q (F0 m pc ls (.int x :: .ref (a 0) :: rest)) :=
  va_put (D := (dC, dI)) (ci := 1) (v := .int x) (ty := .int) (C := R_N) (T := T_N) (N := 11) hx hb hts in_N ty_N tk_N nm_N hown hK hP hD hS 0 rfl rfl 8 (by decide) (hts _ hk) (fun _ h9 => h9) rfl (by decide +kernel) rfl rfl (Nat.le_of_ble_eq_true rfl) hdg (fun H1 locs1 h1 h2 h3 => kk H1 locs1 h1 h2 h3)
theorem nPut4 (hx : p.tables.exec = Jvm.exec) (hb : c.code = cc) (hts : ∀ w ∈ W0, w.before args s = true) (hown : s.vm.findClass R_N = some m.cls) (hK : va_K (dC, dI) cls0 [(cI, .int)] s) (hP : va_P (dC, dI) cls0 (nW cI a N) H) (hD : va_D A (nW cI a N)) (hS : va_S A H0 H locs) (hk : Cond.fieldLink R_N index "DiagramStore$Nodes" "limit" "I" ∈ W0) (hdg : decode cc pc = .ok (.putfield index, 3))
    (kk : ∀ (H1 : Heap) (locs1 : List Loc), va_P (dC, dI) cls0 (nW cI a (up N 0 4 x)) H1 → va_D A (nW cI a (up N 0 4 x)) → va_S A H0 H1 locs1 → W p l e R s m args below meth c H1 locs1 cells slots Q (F0 m (pc + 3) ls rest)) : W p l e R s m args below meth c H locs cells slots Q (F0 m pc ls (.int x :: .ref (a 0) :: rest)) :=
  va_put (D := (dC, dI)) (ci := 1) (v := .int x) (ty := .int) (C := R_N) (T := T_N) (N := 11) hx hb hts in_N ty_N tk_N nm_N hown hK hP hD hS 0 rfl rfl 9 (by decide) (hts _ hk) (fun _ h9 => h9) rfl (by decide +kernel) rfl rfl (Nat.le_of_ble_eq_true rfl) hdg (fun H1 locs1 h1 h2 h3 => kk H1 locs1 h1 h2 h3)
theorem nPut5 (hx : p.tables.exec = Jvm.exec) (hb : c.code = cc) (hts : ∀ w ∈ W0, w.before args s = true) (hown : s.vm.findClass R_N = some m.cls) (hK : va_K (dC, dI) cls0 [(cI, .int)] s) (hP : va_P (dC, dI) cls0 (nW cI a N) H) (hD : va_D A (nW cI a N)) (hS : va_S A H0 H locs) (hk : Cond.fieldLink R_N index "DiagramStore$Nodes" "rewritten" "I" ∈ W0) (hdg : decode cc pc = .ok (.putfield index, 3))
    (kk : ∀ (H1 : Heap) (locs1 : List Loc), va_P (dC, dI) cls0 (nW cI a (up N 0 5 x)) H1 → va_D A (nW cI a (up N 0 5 x)) → va_S A H0 H1 locs1 → W p l e R s m args below meth c H1 locs1 cells slots Q (F0 m (pc + 3) ls rest)) : W p l e R s m args below meth c H locs cells slots Q (F0 m pc ls (.int x :: .ref (a 0) :: rest)) :=
  va_put (D := (dC, dI)) (ci := 1) (v := .int x) (ty := .int) (C := R_N) (T := T_N) (N := 11) hx hb hts in_N ty_N tk_N nm_N hown hK hP hD hS 0 rfl rfl 10 (by decide) (hts _ hk) (fun _ h9 => h9) rfl (by decide +kernel) rfl rfl (Nat.le_of_ble_eq_true rfl) hdg (fun H1 locs1 h1 h2 h3 => kk H1 locs1 h1 h2 h3)
theorem nMin {own : String} {y1 : Int32} (hx : p.tables.exec = Jvm.exec) (hb : c.code = cc) (hml : c.maxLocals = ls.size) (hown : s.vm.findClass own = some m.cls) (hts : ∀ w ∈ W0, w.before args s = true) (hk : Cond.methodLink own index y_JM_min ∈ W0) (hf : 1 ≤ R.frames) (hl : (rest.map fun v => v.category).sum + 13 ≤ R.locals) (hc : cells ≤ R.cells ∧ slots ≤ R.slots) (hdg : decode cc pc = .ok (.invokestatic index, 3))
    (kk : W p l e R s m args below meth c H locs cells slots Q (F0 m (pc + 3) ls (.int (j_min x y1) :: rest))) : W p l e R s m args below meth c H locs cells slots Q (F0 m pc ls (.int y1 :: .int x :: rest)) :=
  va_mmin hx hb hml hown (hts _ hk) (hts _ kst_JM_min) (hts _ kin_JM) (hts _ kcd_JM_min) hf hl hc.1 hc.2 hdg kk
theorem nMax {own : String} {y1 : Int32} (hx : p.tables.exec = Jvm.exec) (hb : c.code = cc) (hml : c.maxLocals = ls.size) (hown : s.vm.findClass own = some m.cls) (hts : ∀ w ∈ W0, w.before args s = true) (hk : Cond.methodLink own index y_JM_max ∈ W0) (hf : 1 ≤ R.frames) (hl : (rest.map fun v => v.category).sum + 13 ≤ R.locals) (hc : cells ≤ R.cells ∧ slots ≤ R.slots) (hdg : decode cc pc = .ok (.invokestatic index, 3))
    (kk : W p l e R s m args below meth c H locs cells slots Q (F0 m (pc + 3) ls (.int (j_max x y1) :: rest))) : W p l e R s m args below meth c H locs cells slots Q (F0 m pc ls (.int y1 :: .int x :: rest)) :=
  va_mmax hx hb hml hown (hts _ hk) (hts _ kst_JM_max) (hts _ kin_JM) (hts _ kcd_JM_max) hf hl hc.1 hc.2 hdg kk
end NST
end
section
/-! what the writing methods leave as it is: the order of the variables -/
theorem refer_5 (N : Mm) (a b : Int32) : j_refer N a b 5 = N 5 := js_5 _ _ _ _
theorem giveBack_5 (N : Mm) (a : Int32) : j_giveBack N a 5 = N 5 := by unfold j_giveBack; rw [uq_0_5, uq_0_5, js_5]
theorem dropHeld_5 (N : Mm) (v : Int32) : j_dropHeld N v 5 = N 5 := by
  unfold j_dropHeld
  by_cases c1 : v < 0
  · rw [if_pos c1]
  · rw [if_neg c1]
    by_cases c2 : nI 12 ≤ v
    · rw [if_pos c2]
    · rw [if_neg c2, uq_3_5]
theorem drop_5 (N : Mm) (a : Int32) : j_drop N a 5 = N 5 := by
  unfold j_drop j_dropKids
  rw [giveBack_5, refer_5, refer_5, dropHeld_5]
theorem neededL_5 : ∀ (n : Nat) (N : Mm) (a b : Int32), (j_neededL n N a b).1 5 = N 5
  | 0, _, _, _ => rfl
  | n + 1, N, a, b => by
    rw [j_neededL]
    by_cases c1 : b = 0
    · rw [if_pos c1]
    · rw [if_neg c1]
      by_cases c2 : 0 < j_get N b 4
      · rw [if_pos c2, neededL_5 n, js_5]
      · rw [if_neg c2, neededL_5 n, drop_5]
theorem needed_5 (N : Mm) (a : Int32) : (j_needed N a).1 5 = N 5 := neededL_5 _ _ _ _
theorem varAt_n {N : Mm} {k w : Nat} (hk : k < 13) (e : N 5 k = nI w) : j_variableAt N (nI k) * 64 = nI (w * 64) := by
  unfold j_variableAt
  rw [if_neg (nI_pos (by omega)), if_neg (nI_ge (by omega) (by omega)), nI_clamp (by omega), e, show (64 : Int32) = nI 64 from rfl, pk_mul]
theorem nI_64 (k : Nat) : nI k + 64 = nI (k + 64) := nI_add k 64
end
section
set_option maxHeartbeats 4000000 in
set_option maxRecDepth 100000 in
/-- N_get -/
theorem c_N_get (l : Launch) (dC : Nat → ClassId) (dI : Nat → Nat → Nat) (cI : ClassId) (a : Nat → Nat) (N : Mm) (x1 x2 : Int32) : Met l y_N_get (.code y_N_get b_N_get 4 (some .int) :: W0) ({ frames := 0, cells := 0, slots := 0, locals := 0 } : Room) (va_Pc [.ref (a 0), .int x1, .int x2] (nR dC dI cI a N)) (QcRead (j_get N x1 x2)) 0 0 (fun _ => False) := by
  refine Met.ofW (cc := b_N_get) (maxL := 4) (ret := (some .int)) (by decide) rfl ?_
  intro p e s m args below meth c s₁ B hml hv
  obtain ⟨rfl, hP, hK⟩ := hv
  have hx := B.exec
  have hb := B.bytes
  have hr := B.returns
  have hts1 := atoms_spec (ws := .code y_N_get b_N_get 4 (some .int) :: W0) B.pre
  have hts : ∀ w ∈ W0, w.before _ s = true := fun w h => hts1 w (List.mem_cons_of_mem _ h)
  have hown : s.vm.findClass R_N = some m.cls := findClass_of_methodNamed B.named
  have hlocks := B.notSynchronized
  have hl := lv_entry ([.ref (a 0), .int x1, .int x2]) (n := 4) (Nat.le_of_ble_eq_true rfl)
  rw [lg_entry_eq]
  generalize (lg_sl ([.ref (a 0), .int x1, .int x2]) ++ List.replicate (4 - (lg_sl ([.ref (a 0), .int x1, .int x2])).length) Slot.unset).toArray = ls at hl ⊢
  have hl : lv_has ls 4 [(0, .ref (a 0)), (1, .int x1), (2, .int x2)] := hl
  refine lv_iload_n hx hb d_N_get_0 rfl (lv_at hl 1 rfl) ?_
  refine lv_iconst (v := 5) hx hb d_N_get_1 (by decide) ?_
  refine lv_imul hx hb d_N_get_2 ?_
  refine lv_iload_n hx hb d_N_get_3 rfl (lv_at hl 2 rfl) ?_
  refine lv_iadd hx hb d_N_get_4 ?_
  refine lv_istore_n (lv' := [(3, .int ((x1 * 5) + x2)), (0, .ref (a 0)), (1, .int x1), (2, .int x2)]) hx hb d_N_get_5 rfl hl (by decide) rfl (fun ls hl => ?_)
  refine lv_iload_n hx hb d_N_get_6 rfl (lv_at hl 0 rfl) ?_
  refine lv_if_lt (tgt := 28) hx hb d_N_get_7 (by decide) (fun c7 => ?_) (fun c7 => ?_)
  · refine lv_iconst (v := 0) hx hb d_N_get_28 (by decide) ?_
    exact W.iret (v := 0) hx hb hr (fun t ht hW => ⟨by rw [show j_get N x1 x2 = 0 from by simp only [j_get, c7, Int32.not_le.mpr c7, if_true, if_false, not_true_eq_false, not_false_eq_true, true_and, and_true, false_and, and_false, true_or, or_true, false_or, or_false, ite_true, ite_false]], ht⟩) (fun q h => by cases h) d_N_get_29
  · refine lv_iload_n hx hb d_N_get_10 rfl (lv_at hl 0 rfl) ?_
    refine lv_aload_n hx hb d_N_get_11 rfl (lv_at hl 1 rfl) ?_
    refine va_get (D := (dC, dI)) (ci := 1) (v := .ref (a 1)) (C := R_N) (T := T_N) (N := 11) hx hb hts in_N hown hK hP 0 rfl rfl 0 (by decide) (hts _ kfl_N_11) (fun _ h9 => h9) rfl d_N_get_12 ?_
    refine va_alen (v := nI (jlen N)) hx hb hK hP 1 0 rfl rfl rfl d_N_get_15 ?_
    refine lv_icmp_ge (tgt := 28) hx hb d_N_get_16 (by decide) (fun c16 => ?_) (fun c16 => ?_)
    · refine lv_iconst (v := 0) hx hb d_N_get_28 (by decide) ?_
      exact W.iret (v := 0) hx hb hr (fun t ht hW => ⟨by rw [show j_get N x1 x2 = 0 from by simp only [j_get, c7, c16, Int32.not_lt.mp c7, Int32.not_lt.mpr c16, if_true, if_false, not_true_eq_false, not_false_eq_true, true_and, and_true, false_and, and_false, true_or, or_true, false_or, or_false, ite_true, ite_false]], ht⟩) (fun q h => by cases h) d_N_get_29
    · refine lv_aload_n hx hb d_N_get_19 rfl (lv_at hl 1 rfl) ?_
      refine va_get (D := (dC, dI)) (ci := 1) (v := .ref (a 1)) (C := R_N) (T := T_N) (N := 11) hx hb hts in_N hown hK hP 0 rfl rfl 0 (by decide) (hts _ kfl_N_11) (fun _ h9 => h9) rfl d_N_get_20 ?_
      refine lv_iload_n hx hb d_N_get_23 rfl (lv_at hl 0 rfl) ?_
      refine va_iald hx hb hK hP 1 0 rfl rfl (lt_of_in c7 c16 (jlen_lt _)) d_N_get_24 ?_
      refine lv_goto (tgt := 29) hx hb d_N_get_25 (by decide) ?_
      exact W.iret (v := (N 1 ((x1 * 5) + x2).toNatClampNeg)) hx hb hr (fun t ht hW => ⟨by rw [show j_get N x1 x2 = N 1 ((x1 * 5) + x2).toNatClampNeg from by simp only [j_get, c7, c16, Int32.not_lt.mp c7, Int32.not_le.mp c16, if_true, if_false, not_true_eq_false, not_false_eq_true, true_and, and_true, false_and, and_false, true_or, or_true, false_or, or_false, ite_true, ite_false]], ht⟩) (fun q h => by cases h) d_N_get_29

set_option maxHeartbeats 4000000 in
set_option maxRecDepth 100000 in
/-- N_set -/
theorem c_N_set (l : Launch) (dC : Nat → ClassId) (dI : Nat → Nat → Nat) (cI : ClassId) (a : Nat → Nat) (N : Mm) (sz : Nat) (x1 x2 x3 : Int32) : Met l y_N_set (.code y_N_set b_N_set 5 none :: W0) ({ frames := 0, cells := 0, slots := 0, locals := 0 } : Room) (va_Pc [.ref (a 0), .int x1, .int x2, .int x3] (nM dC dI cI a N sz)) (va_Qv (fun _ : Unit => True) (fun _ t => nE dC dI cI a (j_set N x1 x2 x3) (va_A (nW cI a N) sz) t) (va_A (nW cI a N) sz)) 0 0 (va_A (nW cI a N) sz) := by
  refine Met.ofW (cc := b_N_set) (maxL := 5) (ret := none) (by decide) rfl ?_
  intro p e s m args below meth c s₁ B hml hv
  obtain ⟨rfl, hsz, hP, hK, hD0⟩ := hv
  have hx := B.exec
  have hb := B.bytes
  have hr := B.returns
  have hts1 := atoms_spec (ws := .code y_N_set b_N_set 5 none :: W0) B.pre
  have hts : ∀ w ∈ W0, w.before _ s = true := fun w h => hts1 w (List.mem_cons_of_mem _ h)
  have hown : s.vm.findClass R_N = some m.cls := findClass_of_methodNamed B.named
  have hlocks := B.notSynchronized
  subst hsz
  have hD := hD0.self (sz := s.heap.size)
  generalize hAe : va_A (nW cI a N) s.heap.size = A at hD ⊢
  have hA : ∀ q : Nat, s.heap.size ≤ q → A q := fun q h => by rw [← hAe]; exact Or.inr h
  have hS : va_S A s.heap s.heap [] := va_S.rf
  have hP : va_P (dC, dI) cls0 (nW cI a N) s.heap := hP
  have hl := lv_entry ([.ref (a 0), .int x1, .int x2, .int x3]) (n := 5) (Nat.le_of_ble_eq_true rfl)
  rw [lg_entry_eq]
  generalize (lg_sl ([.ref (a 0), .int x1, .int x2, .int x3]) ++ List.replicate (5 - (lg_sl ([.ref (a 0), .int x1, .int x2, .int x3])).length) Slot.unset).toArray = ls at hl ⊢
  have hl : lv_has ls 5 [(0, .ref (a 0)), (1, .int x1), (2, .int x2), (3, .int x3)] := hl
  refine lv_iload_n hx hb d_N_set_0 rfl (lv_at hl 1 rfl) ?_
  refine lv_iconst (v := 5) hx hb d_N_set_1 (by decide) ?_
  refine lv_imul hx hb d_N_set_2 ?_
  refine lv_iload_n hx hb d_N_set_3 rfl (lv_at hl 2 rfl) ?_
  refine lv_iadd hx hb d_N_set_4 ?_
  refine lv_istore (lv' := [(4, .int ((x1 * 5) + x2)), (0, .ref (a 0)), (1, .int x1), (2, .int x2), (3, .int x3)]) hx hb d_N_set_5 hl (by decide) rfl (fun ls hl => ?_)
  refine lv_iload hx hb d_N_set_7 (lv_at hl 0 rfl) ?_
  refine lv_if_lt (tgt := 30) hx hb d_N_set_9 (by decide) (fun c9 => ?_) (fun c9 => ?_)
  · have hP9 : va_P (dC, dI) cls0 (nW cI a (j_set N x1 x2 x3)) _ := (show N = j_set N x1 x2 x3 from by simp only [j_set, c9, Int32.not_le.mpr c9, if_true, if_false, not_true_eq_false, not_false_eq_true, true_and, and_true, false_and, and_false, true_or, or_true, false_or, or_false, ite_true, ite_false]) ▸ hP
    have hD9 : va_D A (nW cI a (j_set N x1 x2 x3)) := (show N = j_set N x1 x2 x3 from by simp only [j_set, c9, Int32.not_le.mpr c9, if_true, if_false, not_true_eq_false, not_false_eq_true, true_and, and_true, false_and, and_false, true_or, or_true, false_or, or_false, ite_true, ite_false]) ▸ hD
    exact W.vret hx hb hr (fun t ht hW => ⟨⟨(), rfl, trivial, by rw [ht]; exact hP9, va_K.moved hW.alike hK, hD9⟩, hS.F ht⟩) hS.2.2 d_N_set_30
  · refine lv_iload hx hb d_N_set_12 (lv_at hl 0 rfl) ?_
    refine lv_aload_n hx hb d_N_set_14 rfl (lv_at hl 1 rfl) ?_
    refine va_get (D := (dC, dI)) (ci := 1) (v := .ref (a 1)) (C := R_N) (T := T_N) (N := 11) hx hb hts in_N hown hK hP 0 rfl rfl 0 (by decide) (hts _ kfl_N_11) (fun _ h9 => h9) rfl d_N_set_15 ?_
    refine va_alen (v := nI (jlen N)) hx hb hK hP 1 0 rfl rfl rfl d_N_set_18 ?_
    refine lv_icmp_ge (tgt := 30) hx hb d_N_set_19 (by decide) (fun c19 => ?_) (fun c19 => ?_)
    · have hP9 : va_P (dC, dI) cls0 (nW cI a (j_set N x1 x2 x3)) _ := (show N = j_set N x1 x2 x3 from by simp only [j_set, c9, c19, Int32.not_lt.mp c9, Int32.not_lt.mpr c19, if_true, if_false, not_true_eq_false, not_false_eq_true, true_and, and_true, false_and, and_false, true_or, or_true, false_or, or_false, ite_true, ite_false]) ▸ hP
      have hD9 : va_D A (nW cI a (j_set N x1 x2 x3)) := (show N = j_set N x1 x2 x3 from by simp only [j_set, c9, c19, Int32.not_lt.mp c9, Int32.not_lt.mpr c19, if_true, if_false, not_true_eq_false, not_false_eq_true, true_and, and_true, false_and, and_false, true_or, or_true, false_or, or_false, ite_true, ite_false]) ▸ hD
      exact W.vret hx hb hr (fun t ht hW => ⟨⟨(), rfl, trivial, by rw [ht]; exact hP9, va_K.moved hW.alike hK, hD9⟩, hS.F ht⟩) hS.2.2 d_N_set_30
    · refine lv_aload_n hx hb d_N_set_22 rfl (lv_at hl 1 rfl) ?_
      refine va_get (D := (dC, dI)) (ci := 1) (v := .ref (a 1)) (C := R_N) (T := T_N) (N := 11) hx hb hts in_N hown hK hP 0 rfl rfl 0 (by decide) (hts _ kfl_N_11) (fun _ h9 => h9) rfl d_N_set_23 ?_
      refine lv_iload hx hb d_N_set_26 (lv_at hl 0 rfl) ?_
      refine lv_iload_n hx hb d_N_set_28 rfl (lv_at hl 4 rfl) ?_
      refine nAst1 hx hb hK hP hD hS (lt_of_in c9 c19 (jlen_lt _)) d_N_set_29 (fun H locs hP hD hS => ?_)
      have hP9 : va_P (dC, dI) cls0 (nW cI a (j_set N x1 x2 x3)) _ := (show up N 1 ((x1 * 5) + x2).toNatClampNeg x3 = j_set N x1 x2 x3 from by simp only [j_set, c9, c19, Int32.not_lt.mp c9, Int32.not_le.mp c19, if_true, if_false, not_true_eq_false, not_false_eq_true, true_and, and_true, false_and, and_false, true_or, or_true, false_or, or_false, ite_true, ite_false]) ▸ hP
      have hD9 : va_D A (nW cI a (j_set N x1 x2 x3)) := (show up N 1 ((x1 * 5) + x2).toNatClampNeg x3 = j_set N x1 x2 x3 from by simp only [j_set, c9, c19, Int32.not_lt.mp c9, Int32.not_le.mp c19, if_true, if_false, not_true_eq_false, not_false_eq_true, true_and, and_true, false_and, and_false, true_or, or_true, false_or, or_false, ite_true, ite_false]) ▸ hD
      exact W.vret hx hb hr (fun t ht hW => ⟨⟨(), rfl, trivial, by rw [ht]; exact hP9, va_K.moved hW.alike hK, hD9⟩, hS.F ht⟩) hS.2.2 d_N_set_30

set_option maxHeartbeats 4000000 in
set_option maxRecDepth 100000 in
/-- N_size -/
theorem c_N_size (l : Launch) (dC : Nat → ClassId) (dI : Nat → Nat → Nat) (cI : ClassId) (a : Nat → Nat) (N : Mm) : Met l y_N_size (.code y_N_size b_N_size 1 (some .int) :: W0) ({ frames := 0, cells := 0, slots := 0, locals := 0 } : Room) (va_Pc [.ref (a 0)] (nR dC dI cI a N)) (QcRead (N 0 3)) 0 0 (fun _ => False) := by
  refine Met.ofW (cc := b_N_size) (maxL := 1) (ret := (some .int)) (by decide) rfl ?_
  intro p e s m args below meth c s₁ B hml hv
  obtain ⟨rfl, hP, hK⟩ := hv
  have hx := B.exec
  have hb := B.bytes
  have hr := B.returns
  have hts1 := atoms_spec (ws := .code y_N_size b_N_size 1 (some .int) :: W0) B.pre
  have hts : ∀ w ∈ W0, w.before _ s = true := fun w h => hts1 w (List.mem_cons_of_mem _ h)
  have hown : s.vm.findClass R_N = some m.cls := findClass_of_methodNamed B.named
  have hlocks := B.notSynchronized
  have hl := lv_entry ([.ref (a 0)]) (n := 1) (Nat.le_of_ble_eq_true rfl)
  rw [lg_entry_eq]
  generalize (lg_sl ([.ref (a 0)]) ++ List.replicate (1 - (lg_sl ([.ref (a 0)])).length) Slot.unset).toArray = ls at hl ⊢
  have hl : lv_has ls 1 [(0, .ref (a 0))] := hl
  refine lv_aload_n hx hb d_N_size_0 rfl (lv_at hl 0 rfl) ?_
  refine va_get (D := (dC, dI)) (ci := 1) (v := .int (N 0 3)) (C := R_N) (T := T_N) (N := 11) hx hb hts in_N hown hK hP 0 rfl rfl 8 (by decide) (hts _ kfl_N_40) (fun _ h9 => h9) rfl d_N_size_1 ?_
  exact W.iret (v := (N 0 3)) hx hb hr (fun t ht hW => ⟨by rw [show N 0 3 = N 0 3 from by rfl], ht⟩) (fun q h => by cases h) d_N_size_4

set_option maxHeartbeats 4000000 in
set_option maxRecDepth 100000 in
/-- N_rewritten -/
theorem c_N_rewritten (l : Launch) (dC : Nat → ClassId) (dI : Nat → Nat → Nat) (cI : ClassId) (a : Nat → Nat) (N : Mm) : Met l y_N_rewritten (.code y_N_rewritten b_N_rewritten 1 (some .int) :: W0) ({ frames := 0, cells := 0, slots := 0, locals := 0 } : Room) (va_Pc [.ref (a 0)] (nR dC dI cI a N)) (QcRead (N 0 5)) 0 0 (fun _ => False) := by
  refine Met.ofW (cc := b_N_rewritten) (maxL := 1) (ret := (some .int)) (by decide) rfl ?_
  intro p e s m args below meth c s₁ B hml hv
  obtain ⟨rfl, hP, hK⟩ := hv
  have hx := B.exec
  have hb := B.bytes
  have hr := B.returns
  have hts1 := atoms_spec (ws := .code y_N_rewritten b_N_rewritten 1 (some .int) :: W0) B.pre
  have hts : ∀ w ∈ W0, w.before _ s = true := fun w h => hts1 w (List.mem_cons_of_mem _ h)
  have hown : s.vm.findClass R_N = some m.cls := findClass_of_methodNamed B.named
  have hlocks := B.notSynchronized
  have hl := lv_entry ([.ref (a 0)]) (n := 1) (Nat.le_of_ble_eq_true rfl)
  rw [lg_entry_eq]
  generalize (lg_sl ([.ref (a 0)]) ++ List.replicate (1 - (lg_sl ([.ref (a 0)])).length) Slot.unset).toArray = ls at hl ⊢
  have hl : lv_has ls 1 [(0, .ref (a 0))] := hl
  refine lv_aload_n hx hb d_N_rewritten_0 rfl (lv_at hl 0 rfl) ?_
  refine va_get (D := (dC, dI)) (ci := 1) (v := .int (N 0 5)) (C := R_N) (T := T_N) (N := 11) hx hb hts in_N hown hK hP 0 rfl rfl 10 (by decide) (hts _ kfl_N_43) (fun _ h9 => h9) rfl d_N_rewritten_1 ?_
  exact W.iret (v := (N 0 5)) hx hb hr (fun t ht hW => ⟨by rw [show N 0 5 = N 0 5 from by rfl], ht⟩) (fun q h => by cases h) d_N_rewritten_4

set_option maxHeartbeats 4000000 in
set_option maxRecDepth 100000 in
/-- N_askedBy -/
theorem c_N_askedBy (l : Launch) (dC : Nat → ClassId) (dI : Nat → Nat → Nat) (cI : ClassId) (a : Nat → Nat) (N : Mm) (x1 : Int32) : Met l y_N_askedBy (.code y_N_askedBy b_N_askedBy 2 (some .int) :: W0) ({ frames := 1, cells := 0, slots := 0, locals := 23 } : Room) (va_Pc [.ref (a 0), .int x1] (nR dC dI cI a N)) (QcRead (j_get N x1 0)) 0 0 (fun _ => False) := by
  refine Met.ofW (cc := b_N_askedBy) (maxL := 2) (ret := (some .int)) (by decide) rfl ?_
  intro p e s m args below meth c s₁ B hml hv
  obtain ⟨rfl, hP, hK⟩ := hv
  have hx := B.exec
  have hb := B.bytes
  have hr := B.returns
  have hts1 := atoms_spec (ws := .code y_N_askedBy b_N_askedBy 2 (some .int) :: W0) B.pre
  have hts : ∀ w ∈ W0, w.before _ s = true := fun w h => hts1 w (List.mem_cons_of_mem _ h)
  have hown : s.vm.findClass R_N = some m.cls := findClass_of_methodNamed B.named
  have hlocks := B.notSynchronized
  have hl := lv_entry ([.ref (a 0), .int x1]) (n := 2) (Nat.le_of_ble_eq_true rfl)
  rw [lg_entry_eq]
  generalize (lg_sl ([.ref (a 0), .int x1]) ++ List.replicate (2 - (lg_sl ([.ref (a 0), .int x1])).length) Slot.unset).toArray = ls at hl ⊢
  have hl : lv_has ls 2 [(0, .ref (a 0)), (1, .int x1)] := hl
  refine lv_aload_n hx hb d_N_askedBy_0 rfl (lv_at hl 0 rfl) ?_
  refine lv_iload_n hx hb d_N_askedBy_1 rfl (lv_at hl 1 rfl) ?_
  refine lv_iconst (v := 0) hx hb d_N_askedBy_2 (by decide) ?_
  refine nCallR (As := [.int x1, .int 0]) (rest := []) ⟨hx, hb, hml, hown, hts⟩ (c_N_get l dC dI cI a N x1 0) (cwV 2 hts (gV kml_N_46 kim_N_get ksl_N_get kin_N kcd_N_get) rfl rfl rfl (by decide +kernel) ⟨Nat.le_of_ble_eq_true rfl, Nat.le_of_ble_eq_true rfl⟩) hP hK rfl hl.1 rfl (Nat.le_of_ble_eq_true rfl) d_N_askedBy_3 ⟨Nat.zero_le _, Nat.zero_le _⟩ ?_
  exact W.iret (v := (j_get N x1 0)) hx hb hr (fun t ht hW => ⟨by rw [show j_get N x1 0 = j_get N x1 0 from by rfl], ht⟩) (fun q h => by cases h) d_N_askedBy_6

set_option maxHeartbeats 4000000 in
set_option maxRecDepth 100000 in
/-- N_lowFor -/
theorem c_N_lowFor (l : Launch) (dC : Nat → ClassId) (dI : Nat → Nat → Nat) (cI : ClassId) (a : Nat → Nat) (N : Mm) (x1 x2 : Int32) : Met l y_N_lowFor (.code y_N_lowFor b_N_lowFor 3 (some .int) :: W0) ({ frames := 1, cells := 0, slots := 0, locals := 23 } : Room) (va_Pc [.ref (a 0), .int x1, .int x2] (nR dC dI cI a N)) (QcRead (j_lowFor N x1 x2)) 0 0 (fun _ => False) := by
  refine Met.ofW (cc := b_N_lowFor) (maxL := 3) (ret := (some .int)) (by decide) rfl ?_
  intro p e s m args below meth c s₁ B hml hv
  obtain ⟨rfl, hP, hK⟩ := hv
  have hx := B.exec
  have hb := B.bytes
  have hr := B.returns
  have hts1 := atoms_spec (ws := .code y_N_lowFor b_N_lowFor 3 (some .int) :: W0) B.pre
  have hts : ∀ w ∈ W0, w.before _ s = true := fun w h => hts1 w (List.mem_cons_of_mem _ h)
  have hown : s.vm.findClass R_N = some m.cls := findClass_of_methodNamed B.named
  have hlocks := B.notSynchronized
  have hl := lv_entry ([.ref (a 0), .int x1, .int x2]) (n := 3) (Nat.le_of_ble_eq_true rfl)
  rw [lg_entry_eq]
  generalize (lg_sl ([.ref (a 0), .int x1, .int x2]) ++ List.replicate (3 - (lg_sl ([.ref (a 0), .int x1, .int x2])).length) Slot.unset).toArray = ls at hl ⊢
  have hl : lv_has ls 3 [(0, .ref (a 0)), (1, .int x1), (2, .int x2)] := hl
  refine lv_aload_n hx hb d_N_lowFor_0 rfl (lv_at hl 0 rfl) ?_
  refine lv_iload_n hx hb d_N_lowFor_1 rfl (lv_at hl 1 rfl) ?_
  refine lv_iconst (v := 0) hx hb d_N_lowFor_2 (by decide) ?_
  refine nCallR (As := [.int x1, .int 0]) (rest := []) ⟨hx, hb, hml, hown, hts⟩ (c_N_get l dC dI cI a N x1 0) (cwV 2 hts (gV kml_N_46 kim_N_get ksl_N_get kin_N kcd_N_get) rfl rfl rfl (by decide +kernel) ⟨Nat.le_of_ble_eq_true rfl, Nat.le_of_ble_eq_true rfl⟩) hP hK rfl hl.1 rfl (Nat.le_of_ble_eq_true rfl) d_N_lowFor_3 ⟨Nat.zero_le _, Nat.zero_le _⟩ ?_
  refine lv_iload_n hx hb d_N_lowFor_6 rfl (lv_at hl 2 rfl) ?_
  refine lv_icmp_ne (tgt := 19) hx hb d_N_lowFor_7 (by decide) (fun c7 => ?_) (fun c7 => ?_)
  · refine lv_iload_n hx hb d_N_lowFor_19 rfl (lv_at hl 1 rfl) ?_
    exact W.iret (v := x1) hx hb hr (fun t ht hW => ⟨by rw [show j_lowFor N x1 x2 = x1 from by simp only [j_lowFor, c7, if_true, if_false, not_true_eq_false, not_false_eq_true, true_and, and_true, false_and, and_false, true_or, or_true, false_or, or_false, ite_true, ite_false]], ht⟩) (fun q h => by cases h) d_N_lowFor_20
  · refine lv_aload_n hx hb d_N_lowFor_10 rfl (lv_at hl 0 rfl) ?_
    refine lv_iload_n hx hb d_N_lowFor_11 rfl (lv_at hl 1 rfl) ?_
    refine lv_iconst (v := 1) hx hb d_N_lowFor_12 (by decide) ?_
    refine nCallR (As := [.int x1, .int 1]) (rest := []) ⟨hx, hb, hml, hown, hts⟩ (c_N_get l dC dI cI a N x1 1) (cwV 2 hts (gV kml_N_46 kim_N_get ksl_N_get kin_N kcd_N_get) rfl rfl rfl (by decide +kernel) ⟨Nat.le_of_ble_eq_true rfl, Nat.le_of_ble_eq_true rfl⟩) hP hK rfl hl.1 rfl (Nat.le_of_ble_eq_true rfl) d_N_lowFor_13 ⟨Nat.zero_le _, Nat.zero_le _⟩ ?_
    refine lv_goto (tgt := 20) hx hb d_N_lowFor_16 (by decide) ?_
    exact W.iret (v := (j_get N x1 1)) hx hb hr (fun t ht hW => ⟨by rw [show j_lowFor N x1 x2 = j_get N x1 1 from by simp only [j_lowFor, c7, if_true, if_false, not_true_eq_false, not_false_eq_true, true_and, and_true, false_and, and_false, true_or, or_true, false_or, or_false, ite_true, ite_false]], ht⟩) (fun q h => by cases h) d_N_lowFor_20

set_option maxHeartbeats 4000000 in
set_option maxRecDepth 100000 in
/-- N_highFor -/
theorem c_N_highFor (l : Launch) (dC : Nat → ClassId) (dI : Nat → Nat → Nat) (cI : ClassId) (a : Nat → Nat) (N : Mm) (x1 x2 : Int32) : Met l y_N_highFor (.code y_N_highFor b_N_highFor 3 (some .int) :: W0) ({ frames := 1, cells := 0, slots := 0, locals := 23 } : Room) (va_Pc [.ref (a 0), .int x1, .int x2] (nR dC dI cI a N)) (QcRead (j_highFor N x1 x2)) 0 0 (fun _ => False) := by
  refine Met.ofW (cc := b_N_highFor) (maxL := 3) (ret := (some .int)) (by decide) rfl ?_
  intro p e s m args below meth c s₁ B hml hv
  obtain ⟨rfl, hP, hK⟩ := hv
  have hx := B.exec
  have hb := B.bytes
  have hr := B.returns
  have hts1 := atoms_spec (ws := .code y_N_highFor b_N_highFor 3 (some .int) :: W0) B.pre
  have hts : ∀ w ∈ W0, w.before _ s = true := fun w h => hts1 w (List.mem_cons_of_mem _ h)
  have hown : s.vm.findClass R_N = some m.cls := findClass_of_methodNamed B.named
  have hlocks := B.notSynchronized
  have hl := lv_entry ([.ref (a 0), .int x1, .int x2]) (n := 3) (Nat.le_of_ble_eq_true rfl)
  rw [lg_entry_eq]
  generalize (lg_sl ([.ref (a 0), .int x1, .int x2]) ++ List.replicate (3 - (lg_sl ([.ref (a 0), .int x1, .int x2])).length) Slot.unset).toArray = ls at hl ⊢
  have hl : lv_has ls 3 [(0, .ref (a 0)), (1, .int x1), (2, .int x2)] := hl
  refine lv_aload_n hx hb d_N_highFor_0 rfl (lv_at hl 0 rfl) ?_
  refine lv_iload_n hx hb d_N_highFor_1 rfl (lv_at hl 1 rfl) ?_
  refine lv_iconst (v := 0) hx hb d_N_highFor_2 (by decide) ?_
  refine nCallR (As := [.int x1, .int 0]) (rest := []) ⟨hx, hb, hml, hown, hts⟩ (c_N_get l dC dI cI a N x1 0) (cwV 2 hts (gV kml_N_46 kim_N_get ksl_N_get kin_N kcd_N_get) rfl rfl rfl (by decide +kernel) ⟨Nat.le_of_ble_eq_true rfl, Nat.le_of_ble_eq_true rfl⟩) hP hK rfl hl.1 rfl (Nat.le_of_ble_eq_true rfl) d_N_highFor_3 ⟨Nat.zero_le _, Nat.zero_le _⟩ ?_
  refine lv_iload_n hx hb d_N_highFor_6 rfl (lv_at hl 2 rfl) ?_
  refine lv_icmp_ne (tgt := 19) hx hb d_N_highFor_7 (by decide) (fun c7 => ?_) (fun c7 => ?_)
  · refine lv_iload_n hx hb d_N_highFor_19 rfl (lv_at hl 1 rfl) ?_
    exact W.iret (v := x1) hx hb hr (fun t ht hW => ⟨by rw [show j_highFor N x1 x2 = x1 from by simp only [j_highFor, c7, if_true, if_false, not_true_eq_false, not_false_eq_true, true_and, and_true, false_and, and_false, true_or, or_true, false_or, or_false, ite_true, ite_false]], ht⟩) (fun q h => by cases h) d_N_highFor_20
  · refine lv_aload_n hx hb d_N_highFor_10 rfl (lv_at hl 0 rfl) ?_
    refine lv_iload_n hx hb d_N_highFor_11 rfl (lv_at hl 1 rfl) ?_
    refine lv_iconst (v := 2) hx hb d_N_highFor_12 (by decide) ?_
    refine nCallR (As := [.int x1, .int 2]) (rest := []) ⟨hx, hb, hml, hown, hts⟩ (c_N_get l dC dI cI a N x1 2) (cwV 2 hts (gV kml_N_46 kim_N_get ksl_N_get kin_N kcd_N_get) rfl rfl rfl (by decide +kernel) ⟨Nat.le_of_ble_eq_true rfl, Nat.le_of_ble_eq_true rfl⟩) hP hK rfl hl.1 rfl (Nat.le_of_ble_eq_true rfl) d_N_highFor_13 ⟨Nat.zero_le _, Nat.zero_le _⟩ ?_
    refine lv_goto (tgt := 20) hx hb d_N_highFor_16 (by decide) ?_
    exact W.iret (v := (j_get N x1 2)) hx hb hr (fun t ht hW => ⟨by rw [show j_highFor N x1 x2 = j_get N x1 2 from by simp only [j_highFor, c7, if_true, if_false, not_true_eq_false, not_false_eq_true, true_and, and_true, false_and, and_false, true_or, or_true, false_or, or_false, ite_true, ite_false]], ht⟩) (fun q h => by cases h) d_N_highFor_20

set_option maxHeartbeats 4000000 in
set_option maxRecDepth 100000 in
/-- N_levelOf -/
theorem c_N_levelOf (l : Launch) (dC : Nat → ClassId) (dI : Nat → Nat → Nat) (cI : ClassId) (a : Nat → Nat) (N : Mm) (x1 : Int32) : Met l y_N_levelOf (.code y_N_levelOf b_N_levelOf 2 (some .int) :: W0) ({ frames := 0, cells := 0, slots := 0, locals := 0 } : Room) (va_Pc [.ref (a 0), .int x1] (nR dC dI cI a N)) (QcRead (j_levelOf N x1)) 0 0 (fun _ => False) := by
  refine Met.ofW (cc := b_N_levelOf) (maxL := 2) (ret := (some .int)) (by decide) rfl ?_
  intro p e s m args below meth c s₁ B hml hv
  obtain ⟨rfl, hP, hK⟩ := hv
  have hx := B.exec
  have hb := B.bytes
  have hr := B.returns
  have hts1 := atoms_spec (ws := .code y_N_levelOf b_N_levelOf 2 (some .int) :: W0) B.pre
  have hts : ∀ w ∈ W0, w.before _ s = true := fun w h => hts1 w (List.mem_cons_of_mem _ h)
  have hown : s.vm.findClass R_N = some m.cls := findClass_of_methodNamed B.named
  have hlocks := B.notSynchronized
  have hl := lv_entry ([.ref (a 0), .int x1]) (n := 2) (Nat.le_of_ble_eq_true rfl)
  rw [lg_entry_eq]
  generalize (lg_sl ([.ref (a 0), .int x1]) ++ List.replicate (2 - (lg_sl ([.ref (a 0), .int x1])).length) Slot.unset).toArray = ls at hl ⊢
  have hl : lv_has ls 2 [(0, .ref (a 0)), (1, .int x1)] := hl
  refine lv_iload_n hx hb d_N_levelOf_0 rfl (lv_at hl 1 rfl) ?_
  refine lv_if_lt (tgt := 22) hx hb d_N_levelOf_1 (by decide) (fun c1 => ?_) (fun c1 => ?_)
  · refine lv_bipush (v := 12) hx hb d_N_levelOf_22 (by decide) ?_
    exact W.iret (v := 12) hx hb hr (fun t ht hW => ⟨by rw [show j_levelOf N x1 = 12 from by simp only [j_levelOf, c1, Int32.not_le.mpr c1, if_true, if_false, not_true_eq_false, not_false_eq_true, true_and, and_true, false_and, and_false, true_or, or_true, false_or, or_false, ite_true, ite_false]], ht⟩) (fun q h => by cases h) d_N_levelOf_24
  · refine lv_iload_n hx hb d_N_levelOf_4 rfl (lv_at hl 1 rfl) ?_
    refine lv_aload_n hx hb d_N_levelOf_5 rfl (lv_at hl 0 rfl) ?_
    refine va_get (D := (dC, dI)) (ci := 1) (v := .ref (a 4)) (C := R_N) (T := T_N) (N := 11) hx hb hts in_N hown hK hP 0 rfl rfl 3 (by decide) (hts _ kfl_N_31) (fun _ h9 => h9) rfl d_N_levelOf_6 ?_
    refine va_alen (v := nI 13) hx hb hK hP 4 0 rfl rfl rfl d_N_levelOf_9 ?_
    refine lv_icmp_ge (tgt := 22) hx hb d_N_levelOf_10 (by decide) (fun c10 => ?_) (fun c10 => ?_)
    · refine lv_bipush (v := 12) hx hb d_N_levelOf_22 (by decide) ?_
      exact W.iret (v := 12) hx hb hr (fun t ht hW => ⟨by rw [show j_levelOf N x1 = 12 from by simp only [j_levelOf, c1, c10, Int32.not_lt.mp c1, Int32.not_lt.mpr c10, if_true, if_false, not_true_eq_false, not_false_eq_true, true_and, and_true, false_and, and_false, true_or, or_true, false_or, or_false, ite_true, ite_false]], ht⟩) (fun q h => by cases h) d_N_levelOf_24
    · refine lv_aload_n hx hb d_N_levelOf_13 rfl (lv_at hl 0 rfl) ?_
      refine va_get (D := (dC, dI)) (ci := 1) (v := .ref (a 4)) (C := R_N) (T := T_N) (N := 11) hx hb hts in_N hown hK hP 0 rfl rfl 3 (by decide) (hts _ kfl_N_31) (fun _ h9 => h9) rfl d_N_levelOf_14 ?_
      refine lv_iload_n hx hb d_N_levelOf_17 rfl (lv_at hl 1 rfl) ?_
      refine va_iald hx hb hK hP 4 0 rfl rfl (lt_of_in c1 c10 (by decide)) d_N_levelOf_18 ?_
      refine lv_goto (tgt := 24) hx hb d_N_levelOf_19 (by decide) ?_
      exact W.iret (v := (N 4 x1.toNatClampNeg)) hx hb hr (fun t ht hW => ⟨by rw [show j_levelOf N x1 = N 4 x1.toNatClampNeg from by simp only [j_levelOf, c1, c10, Int32.not_lt.mp c1, Int32.not_le.mp c10, if_true, if_false, not_true_eq_false, not_false_eq_true, true_and, and_true, false_and, and_false, true_or, or_true, false_or, or_false, ite_true, ite_false]], ht⟩) (fun q h => by cases h) d_N_levelOf_24

set_option maxHeartbeats 4000000 in
set_option maxRecDepth 100000 in
/-- N_variableAt -/
theorem c_N_variableAt (l : Launch) (dC : Nat → ClassId) (dI : Nat → Nat → Nat) (cI : ClassId) (a : Nat → Nat) (N : Mm) (x1 : Int32) : Met l y_N_variableAt (.code y_N_variableAt b_N_variableAt 2 (some .int) :: W0) ({ frames := 0, cells := 0, slots := 0, locals := 0 } : Room) (va_Pc [.ref (a 0), .int x1] (nR dC dI cI a N)) (QcRead (j_variableAt N x1)) 0 0 (fun _ => False) := by
  refine Met.ofW (cc := b_N_variableAt) (maxL := 2) (ret := (some .int)) (by decide) rfl ?_
  intro p e s m args below meth c s₁ B hml hv
  obtain ⟨rfl, hP, hK⟩ := hv
  have hx := B.exec
  have hb := B.bytes
  have hr := B.returns
  have hts1 := atoms_spec (ws := .code y_N_variableAt b_N_variableAt 2 (some .int) :: W0) B.pre
  have hts : ∀ w ∈ W0, w.before _ s = true := fun w h => hts1 w (List.mem_cons_of_mem _ h)
  have hown : s.vm.findClass R_N = some m.cls := findClass_of_methodNamed B.named
  have hlocks := B.notSynchronized
  have hl := lv_entry ([.ref (a 0), .int x1]) (n := 2) (Nat.le_of_ble_eq_true rfl)
  rw [lg_entry_eq]
  generalize (lg_sl ([.ref (a 0), .int x1]) ++ List.replicate (2 - (lg_sl ([.ref (a 0), .int x1])).length) Slot.unset).toArray = ls at hl ⊢
  have hl : lv_has ls 2 [(0, .ref (a 0)), (1, .int x1)] := hl
  refine lv_iload_n hx hb d_N_variableAt_0 rfl (lv_at hl 1 rfl) ?_
  refine lv_if_lt (tgt := 22) hx hb d_N_variableAt_1 (by decide) (fun c1 => ?_) (fun c1 => ?_)
  · refine lv_bipush (v := 12) hx hb d_N_variableAt_22 (by decide) ?_
    exact W.iret (v := 12) hx hb hr (fun t ht hW => ⟨by rw [show j_variableAt N x1 = 12 from by simp only [j_variableAt, c1, Int32.not_le.mpr c1, if_true, if_false, not_true_eq_false, not_false_eq_true, true_and, and_true, false_and, and_false, true_or, or_true, false_or, or_false, ite_true, ite_false]], ht⟩) (fun q h => by cases h) d_N_variableAt_24
  · refine lv_iload_n hx hb d_N_variableAt_4 rfl (lv_at hl 1 rfl) ?_
    refine lv_aload_n hx hb d_N_variableAt_5 rfl (lv_at hl 0 rfl) ?_
    refine va_get (D := (dC, dI)) (ci := 1) (v := .ref (a 5)) (C := R_N) (T := T_N) (N := 11) hx hb hts in_N hown hK hP 0 rfl rfl 4 (by decide) (hts _ kfl_N_34) (fun _ h9 => h9) rfl d_N_variableAt_6 ?_
    refine va_alen (v := nI 13) hx hb hK hP 5 0 rfl rfl rfl d_N_variableAt_9 ?_
    refine lv_icmp_ge (tgt := 22) hx hb d_N_variableAt_10 (by decide) (fun c10 => ?_) (fun c10 => ?_)
    · refine lv_bipush (v := 12) hx hb d_N_variableAt_22 (by decide) ?_
      exact W.iret (v := 12) hx hb hr (fun t ht hW => ⟨by rw [show j_variableAt N x1 = 12 from by simp only [j_variableAt, c1, c10, Int32.not_lt.mp c1, Int32.not_lt.mpr c10, if_true, if_false, not_true_eq_false, not_false_eq_true, true_and, and_true, false_and, and_false, true_or, or_true, false_or, or_false, ite_true, ite_false]], ht⟩) (fun q h => by cases h) d_N_variableAt_24
    · refine lv_aload_n hx hb d_N_variableAt_13 rfl (lv_at hl 0 rfl) ?_
      refine va_get (D := (dC, dI)) (ci := 1) (v := .ref (a 5)) (C := R_N) (T := T_N) (N := 11) hx hb hts in_N hown hK hP 0 rfl rfl 4 (by decide) (hts _ kfl_N_34) (fun _ h9 => h9) rfl d_N_variableAt_14 ?_
      refine lv_iload_n hx hb d_N_variableAt_17 rfl (lv_at hl 1 rfl) ?_
      refine va_iald hx hb hK hP 5 0 rfl rfl (lt_of_in c1 c10 (by decide)) d_N_variableAt_18 ?_
      refine lv_goto (tgt := 24) hx hb d_N_variableAt_19 (by decide) ?_
      exact W.iret (v := (N 5 x1.toNatClampNeg)) hx hb hr (fun t ht hW => ⟨by rw [show j_variableAt N x1 = N 5 x1.toNatClampNeg from by simp only [j_variableAt, c1, c10, Int32.not_lt.mp c1, Int32.not_le.mp c10, if_true, if_false, not_true_eq_false, not_false_eq_true, true_and, and_true, false_and, and_false, true_or, or_true, false_or, or_false, ite_true, ite_false]], ht⟩) (fun q h => by cases h) d_N_variableAt_24

set_option maxHeartbeats 4000000 in
set_option maxRecDepth 100000 in
/-- N_heldFor -/
theorem c_N_heldFor (l : Launch) (dC : Nat → ClassId) (dI : Nat → Nat → Nat) (cI : ClassId) (a : Nat → Nat) (N : Mm) (x1 : Int32) : Met l y_N_heldFor (.code y_N_heldFor b_N_heldFor 2 (some .int) :: W0) ({ frames := 0, cells := 0, slots := 0, locals := 0 } : Room) (va_Pc [.ref (a 0), .int x1] (nR dC dI cI a N)) (QcRead (j_heldFor N x1)) 0 0 (fun _ => False) := by
  refine Met.ofW (cc := b_N_heldFor) (maxL := 2) (ret := (some .int)) (by decide) rfl ?_
  intro p e s m args below meth c s₁ B hml hv
  obtain ⟨rfl, hP, hK⟩ := hv
  have hx := B.exec
  have hb := B.bytes
  have hr := B.returns
  have hts1 := atoms_spec (ws := .code y_N_heldFor b_N_heldFor 2 (some .int) :: W0) B.pre
  have hts : ∀ w ∈ W0, w.before _ s = true := fun w h => hts1 w (List.mem_cons_of_mem _ h)
  have hown : s.vm.findClass R_N = some m.cls := findClass_of_methodNamed B.named
  have hlocks := B.notSynchronized
  have hl := lv_entry ([.ref (a 0), .int x1]) (n := 2) (Nat.le_of_ble_eq_true rfl)
  rw [lg_entry_eq]
  generalize (lg_sl ([.ref (a 0), .int x1]) ++ List.replicate (2 - (lg_sl ([.ref (a 0), .int x1])).length) Slot.unset).toArray = ls at hl ⊢
  have hl : lv_has ls 2 [(0, .ref (a 0)), (1, .int x1)] := hl
  refine lv_iload_n hx hb d_N_heldFor_0 rfl (lv_at hl 1 rfl) ?_
  refine lv_if_lt (tgt := 22) hx hb d_N_heldFor_1 (by decide) (fun c1 => ?_) (fun c1 => ?_)
  · refine lv_iconst (v := 0) hx hb d_N_heldFor_22 (by decide) ?_
    exact W.iret (v := 0) hx hb hr (fun t ht hW => ⟨by rw [show j_heldFor N x1 = 0 from by simp only [j_heldFor, c1, Int32.not_le.mpr c1, if_true, if_false, not_true_eq_false, not_false_eq_true, true_and, and_true, false_and, and_false, true_or, or_true, false_or, or_false, ite_true, ite_false]], ht⟩) (fun q h => by cases h) d_N_heldFor_23
  · refine lv_iload_n hx hb d_N_heldFor_4 rfl (lv_at hl 1 rfl) ?_
    refine lv_aload_n hx hb d_N_heldFor_5 rfl (lv_at hl 0 rfl) ?_
    refine va_get (D := (dC, dI)) (ci := 1) (v := .ref (a 3)) (C := R_N) (T := T_N) (N := 11) hx hb hts in_N hown hK hP 0 rfl rfl 2 (by decide) (hts _ kfl_N_28) (fun _ h9 => h9) rfl d_N_heldFor_6 ?_
    refine va_alen (v := nI 12) hx hb hK hP 3 0 rfl rfl rfl d_N_heldFor_9 ?_
    refine lv_icmp_ge (tgt := 22) hx hb d_N_heldFor_10 (by decide) (fun c10 => ?_) (fun c10 => ?_)
    · refine lv_iconst (v := 0) hx hb d_N_heldFor_22 (by decide) ?_
      exact W.iret (v := 0) hx hb hr (fun t ht hW => ⟨by rw [show j_heldFor N x1 = 0 from by simp only [j_heldFor, c1, c10, Int32.not_lt.mp c1, Int32.not_lt.mpr c10, if_true, if_false, not_true_eq_false, not_false_eq_true, true_and, and_true, false_and, and_false, true_or, or_true, false_or, or_false, ite_true, ite_false]], ht⟩) (fun q h => by cases h) d_N_heldFor_23
    · refine lv_aload_n hx hb d_N_heldFor_13 rfl (lv_at hl 0 rfl) ?_
      refine va_get (D := (dC, dI)) (ci := 1) (v := .ref (a 3)) (C := R_N) (T := T_N) (N := 11) hx hb hts in_N hown hK hP 0 rfl rfl 2 (by decide) (hts _ kfl_N_28) (fun _ h9 => h9) rfl d_N_heldFor_14 ?_
      refine lv_iload_n hx hb d_N_heldFor_17 rfl (lv_at hl 1 rfl) ?_
      refine va_iald hx hb hK hP 3 0 rfl rfl (lt_of_in c1 c10 (by decide)) d_N_heldFor_18 ?_
      refine lv_goto (tgt := 23) hx hb d_N_heldFor_19 (by decide) ?_
      exact W.iret (v := (N 3 x1.toNatClampNeg)) hx hb hr (fun t ht hW => ⟨by rw [show j_heldFor N x1 = N 3 x1.toNatClampNeg from by simp only [j_heldFor, c1, c10, Int32.not_lt.mp c1, Int32.not_le.mp c10, if_true, if_false, not_true_eq_false, not_false_eq_true, true_and, and_true, false_and, and_false, true_or, or_true, false_or, or_false, ite_true, ite_false]], ht⟩) (fun q h => by cases h) d_N_heldFor_23

set_option maxHeartbeats 4000000 in
set_option maxRecDepth 100000 in
/-- N_refer -/
theorem c_N_refer (l : Launch) (dC : Nat → ClassId) (dI : Nat → Nat → Nat) (cI : ClassId) (a : Nat → Nat) (N : Mm) (sz : Nat) (x1 x2 : Int32) : Met l y_N_refer (.code y_N_refer b_N_refer 3 none :: W0) ({ frames := 1, cells := 0, slots := 0, locals := 24 } : Room) (va_Pc [.ref (a 0), .int x1, .int x2] (nM dC dI cI a N sz)) (va_Qv (fun _ : Unit => True) (fun _ t => nE dC dI cI a (j_refer N x1 x2) (va_A (nW cI a N) sz) t) (va_A (nW cI a N) sz)) 0 0 (va_A (nW cI a N) sz) := by
  refine Met.ofW (cc := b_N_refer) (maxL := 3) (ret := none) (by decide) rfl ?_
  intro p e s m args below meth c s₁ B hml hv
  obtain ⟨rfl, hsz, hP, hK, hD0⟩ := hv
  have hx := B.exec
  have hb := B.bytes
  have hr := B.returns
  have hts1 := atoms_spec (ws := .code y_N_refer b_N_refer 3 none :: W0) B.pre
  have hts : ∀ w ∈ W0, w.before _ s = true := fun w h => hts1 w (List.mem_cons_of_mem _ h)
  have hown : s.vm.findClass R_N = some m.cls := findClass_of_methodNamed B.named
  have hlocks := B.notSynchronized
  subst hsz
  have hD := hD0.self (sz := s.heap.size)
  generalize hAe : va_A (nW cI a N) s.heap.size = A at hD ⊢
  have hA : ∀ q : Nat, s.heap.size ≤ q → A q := fun q h => by rw [← hAe]; exact Or.inr h
  have hS : va_S A s.heap s.heap [] := va_S.rf
  have hP : va_P (dC, dI) cls0 (nW cI a N) s.heap := hP
  have hl := lv_entry ([.ref (a 0), .int x1, .int x2]) (n := 3) (Nat.le_of_ble_eq_true rfl)
  rw [lg_entry_eq]
  generalize (lg_sl ([.ref (a 0), .int x1, .int x2]) ++ List.replicate (3 - (lg_sl ([.ref (a 0), .int x1, .int x2])).length) Slot.unset).toArray = ls at hl ⊢
  have hl : lv_has ls 3 [(0, .ref (a 0)), (1, .int x1), (2, .int x2)] := hl
  refine lv_aload_n hx hb d_N_refer_0 rfl (lv_at hl 0 rfl) ?_
  refine lv_iload_n hx hb d_N_refer_1 rfl (lv_at hl 1 rfl) ?_
  refine lv_iconst (v := 4) hx hb d_N_refer_2 (by decide) ?_
  refine lv_aload_n hx hb d_N_refer_3 rfl (lv_at hl 0 rfl) ?_
  refine lv_iload_n hx hb d_N_refer_4 rfl (lv_at hl 1 rfl) ?_
  refine lv_iconst (v := 4) hx hb d_N_refer_5 (by decide) ?_
  refine nCallR (As := [.int x1, .int 4]) (rest := [.int 4, .int x1, .ref (a 0)]) ⟨hx, hb, hml, hown, hts⟩ (c_N_get l dC dI cI a N x1 4) (cwV 2 hts (gV kml_N_46 kim_N_get ksl_N_get kin_N kcd_N_get) rfl rfl rfl (by decide +kernel) ⟨Nat.le_of_ble_eq_true rfl, Nat.le_of_ble_eq_true rfl⟩) hP hK rfl hl.1 rfl (Nat.le_of_ble_eq_true rfl) d_N_refer_6 ⟨Nat.zero_le _, Nat.zero_le _⟩ ?_
  refine lv_iload_n hx hb d_N_refer_9 rfl (lv_at hl 2 rfl) ?_
  refine lv_iadd hx hb d_N_refer_10 ?_
  refine nCallv (As := [.int x1, .int 4, .int ((j_get N x1 4) + x2)]) (rest := []) ⟨hx, hb, hml, hown, hts⟩ (c_N_set l dC dI cI a N _ x1 4 ((j_get N x1 4) + x2)) (cwV 3 hts (gV kml_N_65 kim_N_set ksl_N_set kin_N kcd_N_set) rfl rfl rfl (by decide +kernel) ⟨Nat.le_of_ble_eq_true rfl, Nat.le_of_ble_eq_true rfl⟩) hP hK hD hS hA rfl hl.1 rfl (Nat.le_of_ble_eq_true rfl) d_N_refer_11 ⟨Nat.zero_le _, Nat.zero_le _⟩ (fun H locs hP hD hS => ?_)
  have hP9 : va_P (dC, dI) cls0 (nW cI a (j_refer N x1 x2)) _ := (show j_set N x1 4 ((j_get N x1 4) + x2) = j_refer N x1 x2 from by rfl) ▸ hP
  have hD9 : va_D A (nW cI a (j_refer N x1 x2)) := (show j_set N x1 4 ((j_get N x1 4) + x2) = j_refer N x1 x2 from by rfl) ▸ hD
  exact W.vret hx hb hr (fun t ht hW => ⟨⟨(), rfl, trivial, by rw [ht]; exact hP9, va_K.moved hW.alike hK, hD9⟩, hS.F ht⟩) hS.2.2 d_N_refer_14

set_option maxHeartbeats 4000000 in
set_option maxRecDepth 100000 in
/-- N_giveBack -/
theorem c_N_giveBack (l : Launch) (dC : Nat → ClassId) (dI : Nat → Nat → Nat) (cI : ClassId) (a : Nat → Nat) (N : Mm) (sz : Nat) (x1 : Int32) : Met l y_N_giveBack (.code y_N_giveBack b_N_giveBack 2 none :: W0) ({ frames := 1, cells := 0, slots := 0, locals := 24 } : Room) (va_Pc [.ref (a 0), .int x1] (nM dC dI cI a N sz)) (va_Qv (fun _ : Unit => True) (fun _ t => nE dC dI cI a (j_giveBack N x1) (va_A (nW cI a N) sz) t) (va_A (nW cI a N) sz)) 0 0 (va_A (nW cI a N) sz) := by
  refine Met.ofW (cc := b_N_giveBack) (maxL := 2) (ret := none) (by decide) rfl ?_
  intro p e s m args below meth c s₁ B hml hv
  obtain ⟨rfl, hsz, hP, hK, hD0⟩ := hv
  have hx := B.exec
  have hb := B.bytes
  have hr := B.returns
  have hts1 := atoms_spec (ws := .code y_N_giveBack b_N_giveBack 2 none :: W0) B.pre
  have hts : ∀ w ∈ W0, w.before _ s = true := fun w h => hts1 w (List.mem_cons_of_mem _ h)
  have hown : s.vm.findClass R_N = some m.cls := findClass_of_methodNamed B.named
  have hlocks := B.notSynchronized
  subst hsz
  have hD := hD0.self (sz := s.heap.size)
  generalize hAe : va_A (nW cI a N) s.heap.size = A at hD ⊢
  have hA : ∀ q : Nat, s.heap.size ≤ q → A q := fun q h => by rw [← hAe]; exact Or.inr h
  have hS : va_S A s.heap s.heap [] := va_S.rf
  have hP : va_P (dC, dI) cls0 (nW cI a N) s.heap := hP
  have hl := lv_entry ([.ref (a 0), .int x1]) (n := 2) (Nat.le_of_ble_eq_true rfl)
  rw [lg_entry_eq]
  generalize (lg_sl ([.ref (a 0), .int x1]) ++ List.replicate (2 - (lg_sl ([.ref (a 0), .int x1])).length) Slot.unset).toArray = ls at hl ⊢
  have hl : lv_has ls 2 [(0, .ref (a 0)), (1, .int x1)] := hl
  refine lv_aload_n hx hb d_N_giveBack_0 rfl (lv_at hl 0 rfl) ?_
  refine lv_iload_n hx hb d_N_giveBack_1 rfl (lv_at hl 1 rfl) ?_
  refine lv_iconst (v := 3) hx hb d_N_giveBack_2 (by decide) ?_
  refine lv_aload_n hx hb d_N_giveBack_3 rfl (lv_at hl 0 rfl) ?_
  refine va_get (D := (dC, dI)) (ci := 1) (v := .int (N 0 2)) (C := R_N) (T := T_N) (N := 11) hx hb hts in_N hown hK hP 0 rfl rfl 7 (by decide) (hts _ kfl_N_22) (fun _ h9 => h9) rfl d_N_giveBack_4 ?_
  refine nCallv (As := [.int x1, .int 3, .int (N 0 2)]) (rest := []) ⟨hx, hb, hml, hown, hts⟩ (c_N_set l dC dI cI a N _ x1 3 (N 0 2)) (cwV 3 hts (gV kml_N_65 kim_N_set ksl_N_set kin_N kcd_N_set) rfl rfl rfl (by decide +kernel) ⟨Nat.le_of_ble_eq_true rfl, Nat.le_of_ble_eq_true rfl⟩) hP hK hD hS hA rfl hl.1 rfl (Nat.le_of_ble_eq_true rfl) d_N_giveBack_7 ⟨Nat.zero_le _, Nat.zero_le _⟩ (fun H locs hP hD hS => ?_)
  refine lv_aload_n hx hb d_N_giveBack_10 rfl (lv_at hl 0 rfl) ?_
  refine lv_iload_n hx hb d_N_giveBack_11 rfl (lv_at hl 1 rfl) ?_
  refine nPut2 hx hb hts hown hK hP hD hS kfl_N_22 d_N_giveBack_12 (fun H locs hP hD hS => ?_)
  refine lv_aload_n hx hb d_N_giveBack_15 rfl (lv_at hl 0 rfl) ?_
  refine lv_dup hx hb d_N_giveBack_16 rfl ?_
  refine va_get (D := (dC, dI)) (ci := 1) (v := .int ((up (j_set N x1 3 (N 0 2)) 0 2 x1) 0 3)) (C := R_N) (T := T_N) (N := 11) hx hb hts in_N hown hK hP 0 rfl rfl 8 (by decide) (hts _ kfl_N_40) (fun _ h9 => h9) rfl d_N_giveBack_17 ?_
  refine lv_iconst (v := 1) hx hb d_N_giveBack_20 (by decide) ?_
  refine lv_isub hx hb d_N_giveBack_21 ?_
  refine nPut3 hx hb hts hown hK hP hD hS kfl_N_40 d_N_giveBack_22 (fun H locs hP hD hS => ?_)
  have hP9 : va_P (dC, dI) cls0 (nW cI a (j_giveBack N x1)) _ := (show up (up (j_set N x1 3 (N 0 2)) 0 2 x1) 0 3 (((up (j_set N x1 3 (N 0 2)) 0 2 x1) 0 3) - 1) = j_giveBack N x1 from by simp only [j_giveBack, uq_0_1, uq_0_2, uq_0_3, uq_0_4, uq_0_5, uq_1_0, uq_1_2, uq_1_3, uq_1_4, uq_1_5, uq_2_0, uq_2_1, uq_2_3, uq_2_4, uq_2_5, uq_3_0, uq_3_1, uq_3_2, uq_3_4, uq_3_5, uq_4_0, uq_4_1, uq_4_2, uq_4_3, uq_4_5, uq_5_0, uq_5_1, uq_5_2, uq_5_3, uq_5_4, uf_0_0, uf_0_1, uf_0_2, uf_0_3, uf_0_4, uf_0_5, uf_1_0, uf_1_1, uf_1_2, uf_1_3, uf_1_4, uf_1_5, uf_2_0, uf_2_1, uf_2_2, uf_2_3, uf_2_4, uf_2_5, uf_3_0, uf_3_1, uf_3_2, uf_3_3, uf_3_4, uf_3_5, uf_4_0, uf_4_1, uf_4_2, uf_4_3, uf_4_4, uf_4_5, uf_5_0, uf_5_1, uf_5_2, uf_5_3, uf_5_4, uf_5_5, js_0, js_2, js_3, js_4, js_5, if_true, if_false, not_true_eq_false, not_false_eq_true, true_and, and_true, false_and, and_false, true_or, or_true, false_or, or_false, ite_true, ite_false]) ▸ hP
  have hD9 : va_D A (nW cI a (j_giveBack N x1)) := (show up (up (j_set N x1 3 (N 0 2)) 0 2 x1) 0 3 (((up (j_set N x1 3 (N 0 2)) 0 2 x1) 0 3) - 1) = j_giveBack N x1 from by simp only [j_giveBack, uq_0_1, uq_0_2, uq_0_3, uq_0_4, uq_0_5, uq_1_0, uq_1_2, uq_1_3, uq_1_4, uq_1_5, uq_2_0, uq_2_1, uq_2_3, uq_2_4, uq_2_5, uq_3_0, uq_3_1, uq_3_2, uq_3_4, uq_3_5, uq_4_0, uq_4_1, uq_4_2, uq_4_3, uq_4_5, uq_5_0, uq_5_1, uq_5_2, uq_5_3, uq_5_4, uf_0_0, uf_0_1, uf_0_2, uf_0_3, uf_0_4, uf_0_5, uf_1_0, uf_1_1, uf_1_2, uf_1_3, uf_1_4, uf_1_5, uf_2_0, uf_2_1, uf_2_2, uf_2_3, uf_2_4, uf_2_5, uf_3_0, uf_3_1, uf_3_2, uf_3_3, uf_3_4, uf_3_5, uf_4_0, uf_4_1, uf_4_2, uf_4_3, uf_4_4, uf_4_5, uf_5_0, uf_5_1, uf_5_2, uf_5_3, uf_5_4, uf_5_5, js_0, js_2, js_3, js_4, js_5, if_true, if_false, not_true_eq_false, not_false_eq_true, true_and, and_true, false_and, and_false, true_or, or_true, false_or, or_false, ite_true, ite_false]) ▸ hD
  exact W.vret hx hb hr (fun t ht hW => ⟨⟨(), rfl, trivial, by rw [ht]; exact hP9, va_K.moved hW.alike hK, hD9⟩, hS.F ht⟩) hS.2.2 d_N_giveBack_25

set_option maxHeartbeats 4000000 in
set_option maxRecDepth 100000 in
/-- N_freshRow -/
theorem c_N_freshRow (l : Launch) (dC : Nat → ClassId) (dI : Nat → Nat → Nat) (cI : ClassId) (a : Nat → Nat) (N : Mm) (sz : Nat) : Met l y_N_freshRow (.code y_N_freshRow b_N_freshRow 2 (some .int) :: W0) ({ frames := 1, cells := 0, slots := 0, locals := 24 } : Room) (va_Pc [.ref (a 0)] (nM dC dI cI a N sz)) (va_Qi (fun (z : Int32) (_ : Unit) => z = (j_freshRow N).2) (fun _ t => nE dC dI cI a ((j_freshRow N).1) (va_A (nW cI a N) sz) t) (va_A (nW cI a N) sz)) 0 0 (va_A (nW cI a N) sz) := by
  refine Met.ofW (cc := b_N_freshRow) (maxL := 2) (ret := (some .int)) (by decide) rfl ?_
  intro p e s m args below meth c s₁ B hml hv
  obtain ⟨rfl, hsz, hP, hK, hD0⟩ := hv
  have hx := B.exec
  have hb := B.bytes
  have hr := B.returns
  have hts1 := atoms_spec (ws := .code y_N_freshRow b_N_freshRow 2 (some .int) :: W0) B.pre
  have hts : ∀ w ∈ W0, w.before _ s = true := fun w h => hts1 w (List.mem_cons_of_mem _ h)
  have hown : s.vm.findClass R_N = some m.cls := findClass_of_methodNamed B.named
  have hlocks := B.notSynchronized
  subst hsz
  have hD := hD0.self (sz := s.heap.size)
  generalize hAe : va_A (nW cI a N) s.heap.size = A at hD ⊢
  have hA : ∀ q : Nat, s.heap.size ≤ q → A q := fun q h => by rw [← hAe]; exact Or.inr h
  have hS : va_S A s.heap s.heap [] := va_S.rf
  have hP : va_P (dC, dI) cls0 (nW cI a N) s.heap := hP
  have hl := lv_entry ([.ref (a 0)]) (n := 2) (Nat.le_of_ble_eq_true rfl)
  rw [lg_entry_eq]
  generalize (lg_sl ([.ref (a 0)]) ++ List.replicate (2 - (lg_sl ([.ref (a 0)])).length) Slot.unset).toArray = ls at hl ⊢
  have hl : lv_has ls 2 [(0, .ref (a 0))] := hl
  refine lv_aload_n hx hb d_N_freshRow_0 rfl (lv_at hl 0 rfl) ?_
  refine va_get (D := (dC, dI)) (ci := 1) (v := .int (N 0 2)) (C := R_N) (T := T_N) (N := 11) hx hb hts in_N hown hK hP 0 rfl rfl 7 (by decide) (hts _ kfl_N_22) (fun _ h9 => h9) rfl d_N_freshRow_1 ?_
  refine lv_istore_n (lv' := [(1, .int (N 0 2)), (0, .ref (a 0))]) hx hb d_N_freshRow_4 rfl hl (by decide) rfl (fun ls hl => ?_)
  refine lv_iload_n hx hb d_N_freshRow_5 rfl (lv_at hl 0 rfl) ?_
  refine lv_if_eq (tgt := 22) hx hb d_N_freshRow_6 (by decide) (fun c6 => ?_) (fun c6 => ?_)
  · refine lv_aload_n hx hb d_N_freshRow_22 rfl (lv_at hl 1 rfl) ?_
    refine va_get (D := (dC, dI)) (ci := 1) (v := .int (N 0 1)) (C := R_N) (T := T_N) (N := 11) hx hb hts in_N hown hK hP 0 rfl rfl 6 (by decide) (hts _ kfl_N_19) (fun _ h9 => h9) rfl d_N_freshRow_23 ?_
    refine lv_aload_n hx hb d_N_freshRow_26 rfl (lv_at hl 1 rfl) ?_
    refine va_get (D := (dC, dI)) (ci := 1) (v := .int (N 0 0)) (C := R_N) (T := T_N) (N := 11) hx hb hts in_N hown hK hP 0 rfl rfl 5 (by decide) (hts _ kfl_N_15) (fun _ h9 => h9) rfl d_N_freshRow_27 ?_
    refine lv_icmp_ge (tgt := 51) hx hb d_N_freshRow_30 (by decide) (fun c30 => ?_) (fun c30 => ?_)
    · refine lv_iconst (v := 0) hx hb d_N_freshRow_51 (by decide) ?_
      have hP9 : va_P (dC, dI) cls0 (nW cI a ((j_freshRow N).1)) _ := (show N = (j_freshRow N).1 from by simp only [j_freshRow, uq_0_1, uq_0_2, uq_0_3, uq_0_4, uq_0_5, uq_1_0, uq_1_2, uq_1_3, uq_1_4, uq_1_5, uq_2_0, uq_2_1, uq_2_3, uq_2_4, uq_2_5, uq_3_0, uq_3_1, uq_3_2, uq_3_4, uq_3_5, uq_4_0, uq_4_1, uq_4_2, uq_4_3, uq_4_5, uq_5_0, uq_5_1, uq_5_2, uq_5_3, uq_5_4, uf_0_0, uf_0_1, uf_0_2, uf_0_3, uf_0_4, uf_0_5, uf_1_0, uf_1_1, uf_1_2, uf_1_3, uf_1_4, uf_1_5, uf_2_0, uf_2_1, uf_2_2, uf_2_3, uf_2_4, uf_2_5, uf_3_0, uf_3_1, uf_3_2, uf_3_3, uf_3_4, uf_3_5, uf_4_0, uf_4_1, uf_4_2, uf_4_3, uf_4_4, uf_4_5, uf_5_0, uf_5_1, uf_5_2, uf_5_3, uf_5_4, uf_5_5, js_0, js_2, js_3, js_4, js_5, c6, c30, Int32.not_lt.mpr c30, if_true, if_false, not_true_eq_false, not_false_eq_true, true_and, and_true, false_and, and_false, true_or, or_true, false_or, or_false, ite_true, ite_false]) ▸ hP
      have hD9 : va_D A (nW cI a ((j_freshRow N).1)) := (show N = (j_freshRow N).1 from by simp only [j_freshRow, uq_0_1, uq_0_2, uq_0_3, uq_0_4, uq_0_5, uq_1_0, uq_1_2, uq_1_3, uq_1_4, uq_1_5, uq_2_0, uq_2_1, uq_2_3, uq_2_4, uq_2_5, uq_3_0, uq_3_1, uq_3_2, uq_3_4, uq_3_5, uq_4_0, uq_4_1, uq_4_2, uq_4_3, uq_4_5, uq_5_0, uq_5_1, uq_5_2, uq_5_3, uq_5_4, uf_0_0, uf_0_1, uf_0_2, uf_0_3, uf_0_4, uf_0_5, uf_1_0, uf_1_1, uf_1_2, uf_1_3, uf_1_4, uf_1_5, uf_2_0, uf_2_1, uf_2_2, uf_2_3, uf_2_4, uf_2_5, uf_3_0, uf_3_1, uf_3_2, uf_3_3, uf_3_4, uf_3_5, uf_4_0, uf_4_1, uf_4_2, uf_4_3, uf_4_4, uf_4_5, uf_5_0, uf_5_1, uf_5_2, uf_5_3, uf_5_4, uf_5_5, js_0, js_2, js_3, js_4, js_5, c6, c30, Int32.not_lt.mpr c30, if_true, if_false, not_true_eq_false, not_false_eq_true, true_and, and_true, false_and, and_false, true_or, or_true, false_or, or_false, ite_true, ite_false]) ▸ hD
      exact W.iret (v := 0) hx hb hr (fun t ht hW => ⟨⟨0, (), rfl, (show 0 = (j_freshRow N).2 from by simp only [j_freshRow, uq_0_1, uq_0_2, uq_0_3, uq_0_4, uq_0_5, uq_1_0, uq_1_2, uq_1_3, uq_1_4, uq_1_5, uq_2_0, uq_2_1, uq_2_3, uq_2_4, uq_2_5, uq_3_0, uq_3_1, uq_3_2, uq_3_4, uq_3_5, uq_4_0, uq_4_1, uq_4_2, uq_4_3, uq_4_5, uq_5_0, uq_5_1, uq_5_2, uq_5_3, uq_5_4, uf_0_0, uf_0_1, uf_0_2, uf_0_3, uf_0_4, uf_0_5, uf_1_0, uf_1_1, uf_1_2, uf_1_3, uf_1_4, uf_1_5, uf_2_0, uf_2_1, uf_2_2, uf_2_3, uf_2_4, uf_2_5, uf_3_0, uf_3_1, uf_3_2, uf_3_3, uf_3_4, uf_3_5, uf_4_0, uf_4_1, uf_4_2, uf_4_3, uf_4_4, uf_4_5, uf_5_0, uf_5_1, uf_5_2, uf_5_3, uf_5_4, uf_5_5, js_0, js_2, js_3, js_4, js_5, c6, c30, Int32.not_lt.mpr c30, if_true, if_false, not_true_eq_false, not_false_eq_true, true_and, and_true, false_and, and_false, true_or, or_true, false_or, or_false, ite_true, ite_false]), by rw [ht]; exact hP9, va_K.moved hW.alike hK, hD9⟩, hS.F ht⟩) hS.2.2 d_N_freshRow_52
    · refine lv_aload_n hx hb d_N_freshRow_33 rfl (lv_at hl 1 rfl) ?_
      refine va_get (D := (dC, dI)) (ci := 1) (v := .int (N 0 1)) (C := R_N) (T := T_N) (N := 11) hx hb hts in_N hown hK hP 0 rfl rfl 6 (by decide) (hts _ kfl_N_19) (fun _ h9 => h9) rfl d_N_freshRow_34 ?_
      refine lv_istore_n (lv' := [(1, .int (N 0 1)), (0, .ref (a 0))]) hx hb d_N_freshRow_37 rfl hl (by decide) rfl (fun ls hl => ?_)
      refine lv_aload_n hx hb d_N_freshRow_38 rfl (lv_at hl 1 rfl) ?_
      refine lv_dup hx hb d_N_freshRow_39 rfl ?_
      refine va_get (D := (dC, dI)) (ci := 1) (v := .int (N 0 1)) (C := R_N) (T := T_N) (N := 11) hx hb hts in_N hown hK hP 0 rfl rfl 6 (by decide) (hts _ kfl_N_19) (fun _ h9 => h9) rfl d_N_freshRow_40 ?_
      refine lv_iconst (v := 1) hx hb d_N_freshRow_43 (by decide) ?_
      refine lv_iadd hx hb d_N_freshRow_44 ?_
      refine nPut1 hx hb hts hown hK hP hD hS kfl_N_19 d_N_freshRow_45 (fun H locs hP hD hS => ?_)
      refine lv_goto (tgt := 53) hx hb d_N_freshRow_48 (by decide) ?_
      refine lv_aload_n hx hb d_N_freshRow_53 rfl (lv_at hl 1 rfl) ?_
      refine lv_iload_n hx hb d_N_freshRow_54 rfl (lv_at hl 0 rfl) ?_
      refine lv_iconst (v := 4) hx hb d_N_freshRow_55 (by decide) ?_
      refine lv_iconst (v := 0) hx hb d_N_freshRow_56 (by decide) ?_
      refine nCallv (As := [.int (N 0 1), .int 4, .int 0]) (rest := []) ⟨hx, hb, hml, hown, hts⟩ (c_N_set l dC dI cI a (up N 0 1 ((N 0 1) + 1)) _ (N 0 1) 4 0) (cwV 3 hts (gV kml_N_65 kim_N_set ksl_N_set kin_N kcd_N_set) rfl rfl rfl (by decide +kernel) ⟨Nat.le_of_ble_eq_true rfl, Nat.le_of_ble_eq_true rfl⟩) hP hK hD hS hA rfl hl.1 rfl (Nat.le_of_ble_eq_true rfl) d_N_freshRow_57 ⟨Nat.zero_le _, Nat.zero_le _⟩ (fun H locs hP hD hS => ?_)
      refine lv_aload_n hx hb d_N_freshRow_60 rfl (lv_at hl 1 rfl) ?_
      refine lv_dup hx hb d_N_freshRow_61 rfl ?_
      refine va_get (D := (dC, dI)) (ci := 1) (v := .int ((j_set (up N 0 1 ((N 0 1) + 1)) (N 0 1) 4 0) 0 3)) (C := R_N) (T := T_N) (N := 11) hx hb hts in_N hown hK hP 0 rfl rfl 8 (by decide) (hts _ kfl_N_40) (fun _ h9 => h9) rfl d_N_freshRow_62 ?_
      refine lv_iconst (v := 1) hx hb d_N_freshRow_65 (by decide) ?_
      refine lv_iadd hx hb d_N_freshRow_66 ?_
      refine nPut3 hx hb hts hown hK hP hD hS kfl_N_40 d_N_freshRow_67 (fun H locs hP hD hS => ?_)
      refine lv_iload_n hx hb d_N_freshRow_70 rfl (lv_at hl 0 rfl) ?_
      have hP9 : va_P (dC, dI) cls0 (nW cI a ((j_freshRow N).1)) _ := (show up (j_set (up N 0 1 ((N 0 1) + 1)) (N 0 1) 4 0) 0 3 (((j_set (up N 0 1 ((N 0 1) + 1)) (N 0 1) 4 0) 0 3) + 1) = (j_freshRow N).1 from by simp only [j_freshRow, uq_0_1, uq_0_2, uq_0_3, uq_0_4, uq_0_5, uq_1_0, uq_1_2, uq_1_3, uq_1_4, uq_1_5, uq_2_0, uq_2_1, uq_2_3, uq_2_4, uq_2_5, uq_3_0, uq_3_1, uq_3_2, uq_3_4, uq_3_5, uq_4_0, uq_4_1, uq_4_2, uq_4_3, uq_4_5, uq_5_0, uq_5_1, uq_5_2, uq_5_3, uq_5_4, uf_0_0, uf_0_1, uf_0_2, uf_0_3, uf_0_4, uf_0_5, uf_1_0, uf_1_1, uf_1_2, uf_1_3, uf_1_4, uf_1_5, uf_2_0, uf_2_1, uf_2_2, uf_2_3, uf_2_4, uf_2_5, uf_3_0, uf_3_1, uf_3_2, uf_3_3, uf_3_4, uf_3_5, uf_4_0, uf_4_1, uf_4_2, uf_4_3, uf_4_4, uf_4_5, uf_5_0, uf_5_1, uf_5_2, uf_5_3, uf_5_4, uf_5_5, js_0, js_2, js_3, js_4, js_5, c6, c30, Int32.not_le.mp c30, if_true, if_false, not_true_eq_false, not_false_eq_true, true_and, and_true, false_and, and_false, true_or, or_true, false_or, or_false, ite_true, ite_false]) ▸ hP
      have hD9 : va_D A (nW cI a ((j_freshRow N).1)) := (show up (j_set (up N 0 1 ((N 0 1) + 1)) (N 0 1) 4 0) 0 3 (((j_set (up N 0 1 ((N 0 1) + 1)) (N 0 1) 4 0) 0 3) + 1) = (j_freshRow N).1 from by simp only [j_freshRow, uq_0_1, uq_0_2, uq_0_3, uq_0_4, uq_0_5, uq_1_0, uq_1_2, uq_1_3, uq_1_4, uq_1_5, uq_2_0, uq_2_1, uq_2_3, uq_2_4, uq_2_5, uq_3_0, uq_3_1, uq_3_2, uq_3_4, uq_3_5, uq_4_0, uq_4_1, uq_4_2, uq_4_3, uq_4_5, uq_5_0, uq_5_1, uq_5_2, uq_5_3, uq_5_4, uf_0_0, uf_0_1, uf_0_2, uf_0_3, uf_0_4, uf_0_5, uf_1_0, uf_1_1, uf_1_2, uf_1_3, uf_1_4, uf_1_5, uf_2_0, uf_2_1, uf_2_2, uf_2_3, uf_2_4, uf_2_5, uf_3_0, uf_3_1, uf_3_2, uf_3_3, uf_3_4, uf_3_5, uf_4_0, uf_4_1, uf_4_2, uf_4_3, uf_4_4, uf_4_5, uf_5_0, uf_5_1, uf_5_2, uf_5_3, uf_5_4, uf_5_5, js_0, js_2, js_3, js_4, js_5, c6, c30, Int32.not_le.mp c30, if_true, if_false, not_true_eq_false, not_false_eq_true, true_and, and_true, false_and, and_false, true_or, or_true, false_or, or_false, ite_true, ite_false]) ▸ hD
      exact W.iret (v := (N 0 1)) hx hb hr (fun t ht hW => ⟨⟨N 0 1, (), rfl, (show N 0 1 = (j_freshRow N).2 from by simp only [j_freshRow, uq_0_1, uq_0_2, uq_0_3, uq_0_4, uq_0_5, uq_1_0, uq_1_2, uq_1_3, uq_1_4, uq_1_5, uq_2_0, uq_2_1, uq_2_3, uq_2_4, uq_2_5, uq_3_0, uq_3_1, uq_3_2, uq_3_4, uq_3_5, uq_4_0, uq_4_1, uq_4_2, uq_4_3, uq_4_5, uq_5_0, uq_5_1, uq_5_2, uq_5_3, uq_5_4, uf_0_0, uf_0_1, uf_0_2, uf_0_3, uf_0_4, uf_0_5, uf_1_0, uf_1_1, uf_1_2, uf_1_3, uf_1_4, uf_1_5, uf_2_0, uf_2_1, uf_2_2, uf_2_3, uf_2_4, uf_2_5, uf_3_0, uf_3_1, uf_3_2, uf_3_3, uf_3_4, uf_3_5, uf_4_0, uf_4_1, uf_4_2, uf_4_3, uf_4_4, uf_4_5, uf_5_0, uf_5_1, uf_5_2, uf_5_3, uf_5_4, uf_5_5, js_0, js_2, js_3, js_4, js_5, c6, c30, Int32.not_le.mp c30, if_true, if_false, not_true_eq_false, not_false_eq_true, true_and, and_true, false_and, and_false, true_or, or_true, false_or, or_false, ite_true, ite_false]), by rw [ht]; exact hP9, va_K.moved hW.alike hK, hD9⟩, hS.F ht⟩) hS.2.2 d_N_freshRow_71
  · refine lv_aload_n hx hb d_N_freshRow_9 rfl (lv_at hl 1 rfl) ?_
    refine lv_aload_n hx hb d_N_freshRow_10 rfl (lv_at hl 1 rfl) ?_
    refine lv_iload_n hx hb d_N_freshRow_11 rfl (lv_at hl 0 rfl) ?_
    refine lv_iconst (v := 3) hx hb d_N_freshRow_12 (by decide) ?_
    refine nCallR (As := [.int (N 0 2), .int 3]) (rest := [.ref (a 0)]) ⟨hx, hb, hml, hown, hts⟩ (c_N_get l dC dI cI a N (N 0 2) 3) (cwV 2 hts (gV kml_N_46 kim_N_get ksl_N_get kin_N kcd_N_get) rfl rfl rfl (by decide +kernel) ⟨Nat.le_of_ble_eq_true rfl, Nat.le_of_ble_eq_true rfl⟩) hP hK rfl hl.1 rfl (Nat.le_of_ble_eq_true rfl) d_N_freshRow_13 ⟨Nat.zero_le _, Nat.zero_le _⟩ ?_
    refine nPut2 hx hb hts hown hK hP hD hS kfl_N_22 d_N_freshRow_16 (fun H locs hP hD hS => ?_)
    refine lv_goto (tgt := 53) hx hb d_N_freshRow_19 (by decide) ?_
    refine lv_aload_n hx hb d_N_freshRow_53 rfl (lv_at hl 1 rfl) ?_
    refine lv_iload_n hx hb d_N_freshRow_54 rfl (lv_at hl 0 rfl) ?_
    refine lv_iconst (v := 4) hx hb d_N_freshRow_55 (by decide) ?_
    refine lv_iconst (v := 0) hx hb d_N_freshRow_56 (by decide) ?_
    refine nCallv (As := [.int (N 0 2), .int 4, .int 0]) (rest := []) ⟨hx, hb, hml, hown, hts⟩ (c_N_set l dC dI cI a (up N 0 2 (j_get N (N 0 2) 3)) _ (N 0 2) 4 0) (cwV 3 hts (gV kml_N_65 kim_N_set ksl_N_set kin_N kcd_N_set) rfl rfl rfl (by decide +kernel) ⟨Nat.le_of_ble_eq_true rfl, Nat.le_of_ble_eq_true rfl⟩) hP hK hD hS hA rfl hl.1 rfl (Nat.le_of_ble_eq_true rfl) d_N_freshRow_57 ⟨Nat.zero_le _, Nat.zero_le _⟩ (fun H locs hP hD hS => ?_)
    refine lv_aload_n hx hb d_N_freshRow_60 rfl (lv_at hl 1 rfl) ?_
    refine lv_dup hx hb d_N_freshRow_61 rfl ?_
    refine va_get (D := (dC, dI)) (ci := 1) (v := .int ((j_set (up N 0 2 (j_get N (N 0 2) 3)) (N 0 2) 4 0) 0 3)) (C := R_N) (T := T_N) (N := 11) hx hb hts in_N hown hK hP 0 rfl rfl 8 (by decide) (hts _ kfl_N_40) (fun _ h9 => h9) rfl d_N_freshRow_62 ?_
    refine lv_iconst (v := 1) hx hb d_N_freshRow_65 (by decide) ?_
    refine lv_iadd hx hb d_N_freshRow_66 ?_
    refine nPut3 hx hb hts hown hK hP hD hS kfl_N_40 d_N_freshRow_67 (fun H locs hP hD hS => ?_)
    refine lv_iload_n hx hb d_N_freshRow_70 rfl (lv_at hl 0 rfl) ?_
    have hP9 : va_P (dC, dI) cls0 (nW cI a ((j_freshRow N).1)) _ := (show up (j_set (up N 0 2 (j_get N (N 0 2) 3)) (N 0 2) 4 0) 0 3 (((j_set (up N 0 2 (j_get N (N 0 2) 3)) (N 0 2) 4 0) 0 3) + 1) = (j_freshRow N).1 from by simp only [j_freshRow, uq_0_1, uq_0_2, uq_0_3, uq_0_4, uq_0_5, uq_1_0, uq_1_2, uq_1_3, uq_1_4, uq_1_5, uq_2_0, uq_2_1, uq_2_3, uq_2_4, uq_2_5, uq_3_0, uq_3_1, uq_3_2, uq_3_4, uq_3_5, uq_4_0, uq_4_1, uq_4_2, uq_4_3, uq_4_5, uq_5_0, uq_5_1, uq_5_2, uq_5_3, uq_5_4, uf_0_0, uf_0_1, uf_0_2, uf_0_3, uf_0_4, uf_0_5, uf_1_0, uf_1_1, uf_1_2, uf_1_3, uf_1_4, uf_1_5, uf_2_0, uf_2_1, uf_2_2, uf_2_3, uf_2_4, uf_2_5, uf_3_0, uf_3_1, uf_3_2, uf_3_3, uf_3_4, uf_3_5, uf_4_0, uf_4_1, uf_4_2, uf_4_3, uf_4_4, uf_4_5, uf_5_0, uf_5_1, uf_5_2, uf_5_3, uf_5_4, uf_5_5, js_0, js_2, js_3, js_4, js_5, c6, if_true, if_false, not_true_eq_false, not_false_eq_true, true_and, and_true, false_and, and_false, true_or, or_true, false_or, or_false, ite_true, ite_false]) ▸ hP
    have hD9 : va_D A (nW cI a ((j_freshRow N).1)) := (show up (j_set (up N 0 2 (j_get N (N 0 2) 3)) (N 0 2) 4 0) 0 3 (((j_set (up N 0 2 (j_get N (N 0 2) 3)) (N 0 2) 4 0) 0 3) + 1) = (j_freshRow N).1 from by simp only [j_freshRow, uq_0_1, uq_0_2, uq_0_3, uq_0_4, uq_0_5, uq_1_0, uq_1_2, uq_1_3, uq_1_4, uq_1_5, uq_2_0, uq_2_1, uq_2_3, uq_2_4, uq_2_5, uq_3_0, uq_3_1, uq_3_2, uq_3_4, uq_3_5, uq_4_0, uq_4_1, uq_4_2, uq_4_3, uq_4_5, uq_5_0, uq_5_1, uq_5_2, uq_5_3, uq_5_4, uf_0_0, uf_0_1, uf_0_2, uf_0_3, uf_0_4, uf_0_5, uf_1_0, uf_1_1, uf_1_2, uf_1_3, uf_1_4, uf_1_5, uf_2_0, uf_2_1, uf_2_2, uf_2_3, uf_2_4, uf_2_5, uf_3_0, uf_3_1, uf_3_2, uf_3_3, uf_3_4, uf_3_5, uf_4_0, uf_4_1, uf_4_2, uf_4_3, uf_4_4, uf_4_5, uf_5_0, uf_5_1, uf_5_2, uf_5_3, uf_5_4, uf_5_5, js_0, js_2, js_3, js_4, js_5, c6, if_true, if_false, not_true_eq_false, not_false_eq_true, true_and, and_true, false_and, and_false, true_or, or_true, false_or, or_false, ite_true, ite_false]) ▸ hD
    exact W.iret (v := (N 0 2)) hx hb hr (fun t ht hW => ⟨⟨N 0 2, (), rfl, (show N 0 2 = (j_freshRow N).2 from by simp only [j_freshRow, uq_0_1, uq_0_2, uq_0_3, uq_0_4, uq_0_5, uq_1_0, uq_1_2, uq_1_3, uq_1_4, uq_1_5, uq_2_0, uq_2_1, uq_2_3, uq_2_4, uq_2_5, uq_3_0, uq_3_1, uq_3_2, uq_3_4, uq_3_5, uq_4_0, uq_4_1, uq_4_2, uq_4_3, uq_4_5, uq_5_0, uq_5_1, uq_5_2, uq_5_3, uq_5_4, uf_0_0, uf_0_1, uf_0_2, uf_0_3, uf_0_4, uf_0_5, uf_1_0, uf_1_1, uf_1_2, uf_1_3, uf_1_4, uf_1_5, uf_2_0, uf_2_1, uf_2_2, uf_2_3, uf_2_4, uf_2_5, uf_3_0, uf_3_1, uf_3_2, uf_3_3, uf_3_4, uf_3_5, uf_4_0, uf_4_1, uf_4_2, uf_4_3, uf_4_4, uf_4_5, uf_5_0, uf_5_1, uf_5_2, uf_5_3, uf_5_4, uf_5_5, js_0, js_2, js_3, js_4, js_5, c6, if_true, if_false, not_true_eq_false, not_false_eq_true, true_and, and_true, false_and, and_false, true_or, or_true, false_or, or_false, ite_true, ite_false]), by rw [ht]; exact hP9, va_K.moved hW.alike hK, hD9⟩, hS.F ht⟩) hS.2.2 d_N_freshRow_71

set_option maxHeartbeats 4000000 in
set_option maxRecDepth 100000 in
/-- N_chainFor -/
theorem c_N_chainFor (l : Launch) (x1 x2 x3 : Int32) : Met l y_N_chainFor (.code y_N_chainFor b_N_chainFor 4 (some .int) :: W0) ({ frames := 0, cells := 0, slots := 0, locals := 0 } : Room) (va_Pc [.int x1, .int x2, .int x3] (fun _ => True)) (QcRead (j_chainFor x1 x2 x3)) 0 0 (fun _ => False) := by
  refine Met.ofW (cc := b_N_chainFor) (maxL := 4) (ret := (some .int)) (by decide) rfl ?_
  intro p e s m args below meth c s₁ B hml hv
  obtain ⟨rfl, -⟩ := hv
  have hx := B.exec
  have hb := B.bytes
  have hr := B.returns
  have hts1 := atoms_spec (ws := .code y_N_chainFor b_N_chainFor 4 (some .int) :: W0) B.pre
  have hts : ∀ w ∈ W0, w.before _ s = true := fun w h => hts1 w (List.mem_cons_of_mem _ h)
  have hown : s.vm.findClass R_N = some m.cls := findClass_of_methodNamed B.named
  have hlocks := B.notSynchronized
  have hl := lv_entry ([.int x1, .int x2, .int x3]) (n := 4) (Nat.le_of_ble_eq_true rfl)
  rw [lg_entry_eq]
  generalize (lg_sl ([.int x1, .int x2, .int x3]) ++ List.replicate (4 - (lg_sl ([.int x1, .int x2, .int x3])).length) Slot.unset).toArray = ls at hl ⊢
  have hl : lv_has ls 4 [(0, .int x1), (1, .int x2), (2, .int x3)] := hl
  refine lv_iload_n hx hb d_N_chainFor_0 rfl (lv_at hl 1 rfl) ?_
  refine lv_ldc (v := -1640531535) hx hb hown (hts _ kco_N_85) d_N_chainFor_1 ?_
  refine lv_imul hx hb d_N_chainFor_3 ?_
  refine lv_iload_n hx hb d_N_chainFor_4 rfl (lv_at hl 2 rfl) ?_
  refine lv_ldc (v := -2048144789) hx hb hown (hts _ kco_N_86) d_N_chainFor_5 ?_
  refine lv_imul hx hb d_N_chainFor_7 ?_
  refine lv_iadd hx hb d_N_chainFor_8 ?_
  refine lv_istore_n (lv' := [(3, .int ((x2 * (-1640531535)) + (x3 * (-2048144789)))), (0, .int x1), (1, .int x2), (2, .int x3)]) hx hb d_N_chainFor_9 rfl hl (by decide) rfl (fun ls hl => ?_)
  refine lv_iload_n hx hb d_N_chainFor_10 rfl (lv_at hl 1 rfl) ?_
  refine lv_bipush (v := 64) hx hb d_N_chainFor_11 (by decide) ?_
  refine lv_imul hx hb d_N_chainFor_13 ?_
  refine lv_iload_n hx hb d_N_chainFor_14 rfl (lv_at hl 0 rfl) ?_
  refine lv_bipush (v := 20) hx hb d_N_chainFor_15 (by decide) ?_
  refine lv_iushr hx hb d_N_chainFor_17 rfl ?_
  refine lv_bipush (v := 63) hx hb d_N_chainFor_18 (by decide) ?_
  refine lv_iand hx hb d_N_chainFor_20 ?_
  refine lv_iadd hx hb d_N_chainFor_21 ?_
  exact W.iret (v := ((x1 * 64) + (((((x2 * (-1640531535)) + (x3 * (-2048144789))).toUInt32 >>> ((20 : Int32).toUInt32 &&& Int32.toUInt32 31)).toInt32) &&& 63))) hx hb hr (fun t ht hW => ⟨by rw [show j_chainFor x1 x2 x3 = ((x1 * 64) + (((((x2 * (-1640531535)) + (x3 * (-2048144789))).toUInt32 >>> ((20 : Int32).toUInt32 &&& Int32.toUInt32 31)).toInt32) &&& 63)) from by rfl], ht⟩) (fun q h => by cases h) d_N_chainFor_22

set_option maxHeartbeats 4000000 in
set_option maxRecDepth 100000 in
/-- N_link -/
theorem c_N_link (l : Launch) (dC : Nat → ClassId) (dI : Nat → Nat → Nat) (cI : ClassId) (a : Nat → Nat) (N : Mm) (sz : Nat) (x1 x2 x3 x4 : Int32) : Met l y_N_link (.code y_N_link b_N_link 6 none :: W0) ({ frames := 1, cells := 0, slots := 0, locals := 24 } : Room) (va_Pc [.ref (a 0), .int x1, .int x2, .int x3, .int x4] (nM dC dI cI a N sz)) (va_Qv (fun _ : Unit => True) (fun _ t => nE dC dI cI a (j_link N x1 x2 x3 x4) (va_A (nW cI a N) sz) t) (va_A (nW cI a N) sz)) 0 0 (va_A (nW cI a N) sz) := by
  refine Met.ofW (cc := b_N_link) (maxL := 6) (ret := none) (by decide) rfl ?_
  intro p e s m args below meth c s₁ B hml hv
  obtain ⟨rfl, hsz, hP, hK, hD0⟩ := hv
  have hx := B.exec
  have hb := B.bytes
  have hr := B.returns
  have hts1 := atoms_spec (ws := .code y_N_link b_N_link 6 none :: W0) B.pre
  have hts : ∀ w ∈ W0, w.before _ s = true := fun w h => hts1 w (List.mem_cons_of_mem _ h)
  have hown : s.vm.findClass R_N = some m.cls := findClass_of_methodNamed B.named
  have hlocks := B.notSynchronized
  subst hsz
  have hD := hD0.self (sz := s.heap.size)
  generalize hAe : va_A (nW cI a N) s.heap.size = A at hD ⊢
  have hA : ∀ q : Nat, s.heap.size ≤ q → A q := fun q h => by rw [← hAe]; exact Or.inr h
  have hS : va_S A s.heap s.heap [] := va_S.rf
  have hP : va_P (dC, dI) cls0 (nW cI a N) s.heap := hP
  have hl := lv_entry ([.ref (a 0), .int x1, .int x2, .int x3, .int x4]) (n := 6) (Nat.le_of_ble_eq_true rfl)
  rw [lg_entry_eq]
  generalize (lg_sl ([.ref (a 0), .int x1, .int x2, .int x3, .int x4]) ++ List.replicate (6 - (lg_sl ([.ref (a 0), .int x1, .int x2, .int x3, .int x4])).length) Slot.unset).toArray = ls at hl ⊢
  have hl : lv_has ls 6 [(0, .ref (a 0)), (1, .int x1), (2, .int x2), (3, .int x3), (4, .int x4)] := hl
  refine lv_iload_n hx hb d_N_link_0 rfl (lv_at hl 2 rfl) ?_
  refine lv_iload_n hx hb d_N_link_1 rfl (lv_at hl 3 rfl) ?_
  refine lv_iload hx hb d_N_link_2 (lv_at hl 4 rfl) ?_
  refine nCallS (As := [.int x2, .int x3, .int x4]) (rest := []) ⟨hx, hb, hml, hown, hts⟩ (c_N_chainFor l x2 x3 x4) (va_cwS 3 hts (gS kml_N_69 kst_N_chainFor kin_N kcd_N_chainFor) rfl rfl rfl (by decide +kernel) ⟨Nat.le_of_ble_eq_true rfl, Nat.le_of_ble_eq_true rfl⟩) rfl hl.1 rfl (Nat.le_of_ble_eq_true rfl) d_N_link_4 ⟨Nat.zero_le _, Nat.zero_le _⟩ ?_
  refine lv_istore (lv' := [(5, .int (j_chainFor x2 x3 x4)), (0, .ref (a 0)), (1, .int x1), (2, .int x2), (3, .int x3), (4, .int x4)]) hx hb d_N_link_7 hl (by decide) rfl (fun ls hl => ?_)
  refine lv_iload_n hx hb d_N_link_9 rfl (lv_at hl 3 rfl) ?_
  refine lv_if_lt (tgt := 37) hx hb d_N_link_10 (by decide) (fun c10 => ?_) (fun c10 => ?_)
  · have hP9 : va_P (dC, dI) cls0 (nW cI a (j_link N x1 x2 x3 x4)) _ := (show N = j_link N x1 x2 x3 x4 from by simp only [j_link, uq_0_1, uq_0_2, uq_0_3, uq_0_4, uq_0_5, uq_1_0, uq_1_2, uq_1_3, uq_1_4, uq_1_5, uq_2_0, uq_2_1, uq_2_3, uq_2_4, uq_2_5, uq_3_0, uq_3_1, uq_3_2, uq_3_4, uq_3_5, uq_4_0, uq_4_1, uq_4_2, uq_4_3, uq_4_5, uq_5_0, uq_5_1, uq_5_2, uq_5_3, uq_5_4, uf_0_0, uf_0_1, uf_0_2, uf_0_3, uf_0_4, uf_0_5, uf_1_0, uf_1_1, uf_1_2, uf_1_3, uf_1_4, uf_1_5, uf_2_0, uf_2_1, uf_2_2, uf_2_3, uf_2_4, uf_2_5, uf_3_0, uf_3_1, uf_3_2, uf_3_3, uf_3_4, uf_3_5, uf_4_0, uf_4_1, uf_4_2, uf_4_3, uf_4_4, uf_4_5, uf_5_0, uf_5_1, uf_5_2, uf_5_3, uf_5_4, uf_5_5, js_0, js_2, js_3, js_4, js_5, c10, Int32.not_le.mpr c10, if_true, if_false, not_true_eq_false, not_false_eq_true, true_and, and_true, false_and, and_false, true_or, or_true, false_or, or_false, ite_true, ite_false]) ▸ hP
    have hD9 : va_D A (nW cI a (j_link N x1 x2 x3 x4)) := (show N = j_link N x1 x2 x3 x4 from by simp only [j_link, uq_0_1, uq_0_2, uq_0_3, uq_0_4, uq_0_5, uq_1_0, uq_1_2, uq_1_3, uq_1_4, uq_1_5, uq_2_0, uq_2_1, uq_2_3, uq_2_4, uq_2_5, uq_3_0, uq_3_1, uq_3_2, uq_3_4, uq_3_5, uq_4_0, uq_4_1, uq_4_2, uq_4_3, uq_4_5, uq_5_0, uq_5_1, uq_5_2, uq_5_3, uq_5_4, uf_0_0, uf_0_1, uf_0_2, uf_0_3, uf_0_4, uf_0_5, uf_1_0, uf_1_1, uf_1_2, uf_1_3, uf_1_4, uf_1_5, uf_2_0, uf_2_1, uf_2_2, uf_2_3, uf_2_4, uf_2_5, uf_3_0, uf_3_1, uf_3_2, uf_3_3, uf_3_4, uf_3_5, uf_4_0, uf_4_1, uf_4_2, uf_4_3, uf_4_4, uf_4_5, uf_5_0, uf_5_1, uf_5_2, uf_5_3, uf_5_4, uf_5_5, js_0, js_2, js_3, js_4, js_5, c10, Int32.not_le.mpr c10, if_true, if_false, not_true_eq_false, not_false_eq_true, true_and, and_true, false_and, and_false, true_or, or_true, false_or, or_false, ite_true, ite_false]) ▸ hD
    exact W.vret hx hb hr (fun t ht hW => ⟨⟨(), rfl, trivial, by rw [ht]; exact hP9, va_K.moved hW.alike hK, hD9⟩, hS.F ht⟩) hS.2.2 d_N_link_37
  · refine lv_iload_n hx hb d_N_link_13 rfl (lv_at hl 3 rfl) ?_
    refine lv_aload_n hx hb d_N_link_14 rfl (lv_at hl 1 rfl) ?_
    refine va_get (D := (dC, dI)) (ci := 1) (v := .ref (a 3)) (C := R_N) (T := T_N) (N := 11) hx hb hts in_N hown hK hP 0 rfl rfl 2 (by decide) (hts _ kfl_N_28) (fun _ h9 => h9) rfl d_N_link_15 ?_
    refine va_alen (v := nI 12) hx hb hK hP 3 0 rfl rfl rfl d_N_link_18 ?_
    refine lv_icmp_ge (tgt := 37) hx hb d_N_link_19 (by decide) (fun c19 => ?_) (fun c19 => ?_)
    · have hP9 : va_P (dC, dI) cls0 (nW cI a (j_link N x1 x2 x3 x4)) _ := (show N = j_link N x1 x2 x3 x4 from by simp only [j_link, uq_0_1, uq_0_2, uq_0_3, uq_0_4, uq_0_5, uq_1_0, uq_1_2, uq_1_3, uq_1_4, uq_1_5, uq_2_0, uq_2_1, uq_2_3, uq_2_4, uq_2_5, uq_3_0, uq_3_1, uq_3_2, uq_3_4, uq_3_5, uq_4_0, uq_4_1, uq_4_2, uq_4_3, uq_4_5, uq_5_0, uq_5_1, uq_5_2, uq_5_3, uq_5_4, uf_0_0, uf_0_1, uf_0_2, uf_0_3, uf_0_4, uf_0_5, uf_1_0, uf_1_1, uf_1_2, uf_1_3, uf_1_4, uf_1_5, uf_2_0, uf_2_1, uf_2_2, uf_2_3, uf_2_4, uf_2_5, uf_3_0, uf_3_1, uf_3_2, uf_3_3, uf_3_4, uf_3_5, uf_4_0, uf_4_1, uf_4_2, uf_4_3, uf_4_4, uf_4_5, uf_5_0, uf_5_1, uf_5_2, uf_5_3, uf_5_4, uf_5_5, js_0, js_2, js_3, js_4, js_5, c10, c19, Int32.not_lt.mp c10, Int32.not_lt.mpr c19, if_true, if_false, not_true_eq_false, not_false_eq_true, true_and, and_true, false_and, and_false, true_or, or_true, false_or, or_false, ite_true, ite_false]) ▸ hP
      have hD9 : va_D A (nW cI a (j_link N x1 x2 x3 x4)) := (show N = j_link N x1 x2 x3 x4 from by simp only [j_link, uq_0_1, uq_0_2, uq_0_3, uq_0_4, uq_0_5, uq_1_0, uq_1_2, uq_1_3, uq_1_4, uq_1_5, uq_2_0, uq_2_1, uq_2_3, uq_2_4, uq_2_5, uq_3_0, uq_3_1, uq_3_2, uq_3_4, uq_3_5, uq_4_0, uq_4_1, uq_4_2, uq_4_3, uq_4_5, uq_5_0, uq_5_1, uq_5_2, uq_5_3, uq_5_4, uf_0_0, uf_0_1, uf_0_2, uf_0_3, uf_0_4, uf_0_5, uf_1_0, uf_1_1, uf_1_2, uf_1_3, uf_1_4, uf_1_5, uf_2_0, uf_2_1, uf_2_2, uf_2_3, uf_2_4, uf_2_5, uf_3_0, uf_3_1, uf_3_2, uf_3_3, uf_3_4, uf_3_5, uf_4_0, uf_4_1, uf_4_2, uf_4_3, uf_4_4, uf_4_5, uf_5_0, uf_5_1, uf_5_2, uf_5_3, uf_5_4, uf_5_5, js_0, js_2, js_3, js_4, js_5, c10, c19, Int32.not_lt.mp c10, Int32.not_lt.mpr c19, if_true, if_false, not_true_eq_false, not_false_eq_true, true_and, and_true, false_and, and_false, true_or, or_true, false_or, or_false, ite_true, ite_false]) ▸ hD
      exact W.vret hx hb hr (fun t ht hW => ⟨⟨(), rfl, trivial, by rw [ht]; exact hP9, va_K.moved hW.alike hK, hD9⟩, hS.F ht⟩) hS.2.2 d_N_link_37
    · refine lv_iload hx hb d_N_link_22 (lv_at hl 0 rfl) ?_
      refine lv_if_lt (tgt := 37) hx hb d_N_link_24 (by decide) (fun c24 => ?_) (fun c24 => ?_)
      · have hP9 : va_P (dC, dI) cls0 (nW cI a (j_link N x1 x2 x3 x4)) _ := (show N = j_link N x1 x2 x3 x4 from by simp only [j_link, uq_0_1, uq_0_2, uq_0_3, uq_0_4, uq_0_5, uq_1_0, uq_1_2, uq_1_3, uq_1_4, uq_1_5, uq_2_0, uq_2_1, uq_2_3, uq_2_4, uq_2_5, uq_3_0, uq_3_1, uq_3_2, uq_3_4, uq_3_5, uq_4_0, uq_4_1, uq_4_2, uq_4_3, uq_4_5, uq_5_0, uq_5_1, uq_5_2, uq_5_3, uq_5_4, uf_0_0, uf_0_1, uf_0_2, uf_0_3, uf_0_4, uf_0_5, uf_1_0, uf_1_1, uf_1_2, uf_1_3, uf_1_4, uf_1_5, uf_2_0, uf_2_1, uf_2_2, uf_2_3, uf_2_4, uf_2_5, uf_3_0, uf_3_1, uf_3_2, uf_3_3, uf_3_4, uf_3_5, uf_4_0, uf_4_1, uf_4_2, uf_4_3, uf_4_4, uf_4_5, uf_5_0, uf_5_1, uf_5_2, uf_5_3, uf_5_4, uf_5_5, js_0, js_2, js_3, js_4, js_5, c10, c19, c24, Int32.not_lt.mp c10, Int32.not_le.mp c19, Int32.not_le.mpr c24, if_true, if_false, not_true_eq_false, not_false_eq_true, true_and, and_true, false_and, and_false, true_or, or_true, false_or, or_false, ite_true, ite_false]) ▸ hP
        have hD9 : va_D A (nW cI a (j_link N x1 x2 x3 x4)) := (show N = j_link N x1 x2 x3 x4 from by simp only [j_link, uq_0_1, uq_0_2, uq_0_3, uq_0_4, uq_0_5, uq_1_0, uq_1_2, uq_1_3, uq_1_4, uq_1_5, uq_2_0, uq_2_1, uq_2_3, uq_2_4, uq_2_5, uq_3_0, uq_3_1, uq_3_2, uq_3_4, uq_3_5, uq_4_0, uq_4_1, uq_4_2, uq_4_3, uq_4_5, uq_5_0, uq_5_1, uq_5_2, uq_5_3, uq_5_4, uf_0_0, uf_0_1, uf_0_2, uf_0_3, uf_0_4, uf_0_5, uf_1_0, uf_1_1, uf_1_2, uf_1_3, uf_1_4, uf_1_5, uf_2_0, uf_2_1, uf_2_2, uf_2_3, uf_2_4, uf_2_5, uf_3_0, uf_3_1, uf_3_2, uf_3_3, uf_3_4, uf_3_5, uf_4_0, uf_4_1, uf_4_2, uf_4_3, uf_4_4, uf_4_5, uf_5_0, uf_5_1, uf_5_2, uf_5_3, uf_5_4, uf_5_5, js_0, js_2, js_3, js_4, js_5, c10, c19, c24, Int32.not_lt.mp c10, Int32.not_le.mp c19, Int32.not_le.mpr c24, if_true, if_false, not_true_eq_false, not_false_eq_true, true_and, and_true, false_and, and_false, true_or, or_true, false_or, or_false, ite_true, ite_false]) ▸ hD
        exact W.vret hx hb hr (fun t ht hW => ⟨⟨(), rfl, trivial, by rw [ht]; exact hP9, va_K.moved hW.alike hK, hD9⟩, hS.F ht⟩) hS.2.2 d_N_link_37
      · refine lv_iload hx hb d_N_link_27 (lv_at hl 0 rfl) ?_
        refine lv_aload_n hx hb d_N_link_29 rfl (lv_at hl 1 rfl) ?_
        refine va_get (D := (dC, dI)) (ci := 1) (v := .ref (a 2)) (C := R_N) (T := T_N) (N := 11) hx hb hts in_N hown hK hP 0 rfl rfl 1 (by decide) (hts _ kfl_N_25) (fun _ h9 => h9) rfl d_N_link_30 ?_
        refine va_alen (v := nI 768) hx hb hK hP 2 0 rfl rfl rfl d_N_link_33 ?_
        refine lv_icmp_lt (tgt := 38) hx hb d_N_link_34 (by decide) (fun c34 => ?_) (fun c34 => ?_)
        · refine lv_aload_n hx hb d_N_link_38 rfl (lv_at hl 1 rfl) ?_
          refine lv_iload_n hx hb d_N_link_39 rfl (lv_at hl 2 rfl) ?_
          refine lv_iconst (v := 0) hx hb d_N_link_40 (by decide) ?_
          refine lv_iload_n hx hb d_N_link_41 rfl (lv_at hl 3 rfl) ?_
          refine nCallv (As := [.int x1, .int 0, .int x2]) (rest := []) ⟨hx, hb, hml, hown, hts⟩ (c_N_set l dC dI cI a N _ x1 0 x2) (cwV 3 hts (gV kml_N_65 kim_N_set ksl_N_set kin_N kcd_N_set) rfl rfl rfl (by decide +kernel) ⟨Nat.le_of_ble_eq_true rfl, Nat.le_of_ble_eq_true rfl⟩) hP hK hD hS hA rfl hl.1 rfl (Nat.le_of_ble_eq_true rfl) d_N_link_42 ⟨Nat.zero_le _, Nat.zero_le _⟩ (fun H locs hP hD hS => ?_)
          refine lv_aload_n hx hb d_N_link_45 rfl (lv_at hl 1 rfl) ?_
          refine lv_iload_n hx hb d_N_link_46 rfl (lv_at hl 2 rfl) ?_
          refine lv_iconst (v := 1) hx hb d_N_link_47 (by decide) ?_
          refine lv_iload_n hx hb d_N_link_48 rfl (lv_at hl 4 rfl) ?_
          refine nCallv (As := [.int x1, .int 1, .int x3]) (rest := []) ⟨hx, hb, hml, hown, hts⟩ (c_N_set l dC dI cI a (j_set N x1 0 x2) _ x1 1 x3) (cwV 3 hts (gV kml_N_65 kim_N_set ksl_N_set kin_N kcd_N_set) rfl rfl rfl (by decide +kernel) ⟨Nat.le_of_ble_eq_true rfl, Nat.le_of_ble_eq_true rfl⟩) hP hK hD hS hA rfl hl.1 rfl (Nat.le_of_ble_eq_true rfl) d_N_link_49 ⟨Nat.zero_le _, Nat.zero_le _⟩ (fun H locs hP hD hS => ?_)
          refine lv_aload_n hx hb d_N_link_52 rfl (lv_at hl 1 rfl) ?_
          refine lv_iload_n hx hb d_N_link_53 rfl (lv_at hl 2 rfl) ?_
          refine lv_iconst (v := 2) hx hb d_N_link_54 (by decide) ?_
          refine lv_iload hx hb d_N_link_55 (lv_at hl 5 rfl) ?_
          refine nCallv (As := [.int x1, .int 2, .int x4]) (rest := []) ⟨hx, hb, hml, hown, hts⟩ (c_N_set l dC dI cI a (j_set (j_set N x1 0 x2) x1 1 x3) _ x1 2 x4) (cwV 3 hts (gV kml_N_65 kim_N_set ksl_N_set kin_N kcd_N_set) rfl rfl rfl (by decide +kernel) ⟨Nat.le_of_ble_eq_true rfl, Nat.le_of_ble_eq_true rfl⟩) hP hK hD hS hA rfl hl.1 rfl (Nat.le_of_ble_eq_true rfl) d_N_link_57 ⟨Nat.zero_le _, Nat.zero_le _⟩ (fun H locs hP hD hS => ?_)
          refine lv_aload_n hx hb d_N_link_60 rfl (lv_at hl 1 rfl) ?_
          refine lv_iload_n hx hb d_N_link_61 rfl (lv_at hl 2 rfl) ?_
          refine lv_iconst (v := 3) hx hb d_N_link_62 (by decide) ?_
          refine lv_aload_n hx hb d_N_link_63 rfl (lv_at hl 1 rfl) ?_
          refine va_get (D := (dC, dI)) (ci := 1) (v := .ref (a 2)) (C := R_N) (T := T_N) (N := 11) hx hb hts in_N hown hK hP 0 rfl rfl 1 (by decide) (hts _ kfl_N_25) (fun _ h9 => h9) rfl d_N_link_64 ?_
          refine lv_iload hx hb d_N_link_67 (lv_at hl 0 rfl) ?_
          refine va_iald hx hb hK hP 2 0 rfl rfl (lt_of_in c24 (Int32.not_le.mpr c34) (by decide)) d_N_link_69 ?_
          refine nCallv (As := [.int x1, .int 3, .int ((j_set (j_set (j_set N x1 0 x2) x1 1 x3) x1 2 x4) 2 (j_chainFor x2 x3 x4).toNatClampNeg)]) (rest := []) ⟨hx, hb, hml, hown, hts⟩ (c_N_set l dC dI cI a (j_set (j_set (j_set N x1 0 x2) x1 1 x3) x1 2 x4) _ x1 3 ((j_set (j_set (j_set N x1 0 x2) x1 1 x3) x1 2 x4) 2 (j_chainFor x2 x3 x4).toNatClampNeg)) (cwV 3 hts (gV kml_N_65 kim_N_set ksl_N_set kin_N kcd_N_set) rfl rfl rfl (by decide +kernel) ⟨Nat.le_of_ble_eq_true rfl, Nat.le_of_ble_eq_true rfl⟩) hP hK hD hS hA rfl hl.1 rfl (Nat.le_of_ble_eq_true rfl) d_N_link_70 ⟨Nat.zero_le _, Nat.zero_le _⟩ (fun H locs hP hD hS => ?_)
          refine lv_aload_n hx hb d_N_link_73 rfl (lv_at hl 1 rfl) ?_
          refine va_get (D := (dC, dI)) (ci := 1) (v := .ref (a 2)) (C := R_N) (T := T_N) (N := 11) hx hb hts in_N hown hK hP 0 rfl rfl 1 (by decide) (hts _ kfl_N_25) (fun _ h9 => h9) rfl d_N_link_74 ?_
          refine lv_iload hx hb d_N_link_77 (lv_at hl 0 rfl) ?_
          refine lv_iload_n hx hb d_N_link_79 rfl (lv_at hl 2 rfl) ?_
          refine nAst2 hx hb hK hP hD hS (lt_of_in c24 (Int32.not_le.mpr c34) (by decide)) d_N_link_80 (fun H locs hP hD hS => ?_)
          refine lv_aload_n hx hb d_N_link_81 rfl (lv_at hl 1 rfl) ?_
          refine va_get (D := (dC, dI)) (ci := 1) (v := .ref (a 3)) (C := R_N) (T := T_N) (N := 11) hx hb hts in_N hown hK hP 0 rfl rfl 2 (by decide) (hts _ kfl_N_28) (fun _ h9 => h9) rfl d_N_link_82 ?_
          refine lv_iload_n hx hb d_N_link_85 rfl (lv_at hl 3 rfl) ?_
          refine lv_dup2_11 hx hb d_N_link_86 rfl rfl ?_
          refine va_iald hx hb hK hP 3 0 rfl rfl (lt_of_in c10 c19 (by decide)) d_N_link_87 ?_
          refine lv_iconst (v := 1) hx hb d_N_link_88 (by decide) ?_
          refine lv_iadd hx hb d_N_link_89 ?_
          refine nAst3 hx hb hK hP hD hS (lt_of_in c10 c19 (by decide)) d_N_link_90 (fun H locs hP hD hS => ?_)
          have hP9 : va_P (dC, dI) cls0 (nW cI a (j_link N x1 x2 x3 x4)) _ := (show up (up (j_set (j_set (j_set (j_set N x1 0 x2) x1 1 x3) x1 2 x4) x1 3 ((j_set (j_set (j_set N x1 0 x2) x1 1 x3) x1 2 x4) 2 (j_chainFor x2 x3 x4).toNatClampNeg)) 2 (j_chainFor x2 x3 x4).toNatClampNeg x1) 3 x2.toNatClampNeg (((up (j_set (j_set (j_set (j_set N x1 0 x2) x1 1 x3) x1 2 x4) x1 3 ((j_set (j_set (j_set N x1 0 x2) x1 1 x3) x1 2 x4) 2 (j_chainFor x2 x3 x4).toNatClampNeg)) 2 (j_chainFor x2 x3 x4).toNatClampNeg x1) 3 x2.toNatClampNeg) + 1) = j_link N x1 x2 x3 x4 from by simp only [j_link, uq_0_1, uq_0_2, uq_0_3, uq_0_4, uq_0_5, uq_1_0, uq_1_2, uq_1_3, uq_1_4, uq_1_5, uq_2_0, uq_2_1, uq_2_3, uq_2_4, uq_2_5, uq_3_0, uq_3_1, uq_3_2, uq_3_4, uq_3_5, uq_4_0, uq_4_1, uq_4_2, uq_4_3, uq_4_5, uq_5_0, uq_5_1, uq_5_2, uq_5_3, uq_5_4, uf_0_0, uf_0_1, uf_0_2, uf_0_3, uf_0_4, uf_0_5, uf_1_0, uf_1_1, uf_1_2, uf_1_3, uf_1_4, uf_1_5, uf_2_0, uf_2_1, uf_2_2, uf_2_3, uf_2_4, uf_2_5, uf_3_0, uf_3_1, uf_3_2, uf_3_3, uf_3_4, uf_3_5, uf_4_0, uf_4_1, uf_4_2, uf_4_3, uf_4_4, uf_4_5, uf_5_0, uf_5_1, uf_5_2, uf_5_3, uf_5_4, uf_5_5, js_0, js_2, js_3, js_4, js_5, c10, c19, c24, c34, Int32.not_lt.mp c10, Int32.not_le.mp c19, Int32.not_lt.mp c24, Int32.not_le.mpr c34, if_true, if_false, not_true_eq_false, not_false_eq_true, true_and, and_true, false_and, and_false, true_or, or_true, false_or, or_false, ite_true, ite_false]) ▸ hP
          have hD9 : va_D A (nW cI a (j_link N x1 x2 x3 x4)) := (show up (up (j_set (j_set (j_set (j_set N x1 0 x2) x1 1 x3) x1 2 x4) x1 3 ((j_set (j_set (j_set N x1 0 x2) x1 1 x3) x1 2 x4) 2 (j_chainFor x2 x3 x4).toNatClampNeg)) 2 (j_chainFor x2 x3 x4).toNatClampNeg x1) 3 x2.toNatClampNeg (((up (j_set (j_set (j_set (j_set N x1 0 x2) x1 1 x3) x1 2 x4) x1 3 ((j_set (j_set (j_set N x1 0 x2) x1 1 x3) x1 2 x4) 2 (j_chainFor x2 x3 x4).toNatClampNeg)) 2 (j_chainFor x2 x3 x4).toNatClampNeg x1) 3 x2.toNatClampNeg) + 1) = j_link N x1 x2 x3 x4 from by simp only [j_link, uq_0_1, uq_0_2, uq_0_3, uq_0_4, uq_0_5, uq_1_0, uq_1_2, uq_1_3, uq_1_4, uq_1_5, uq_2_0, uq_2_1, uq_2_3, uq_2_4, uq_2_5, uq_3_0, uq_3_1, uq_3_2, uq_3_4, uq_3_5, uq_4_0, uq_4_1, uq_4_2, uq_4_3, uq_4_5, uq_5_0, uq_5_1, uq_5_2, uq_5_3, uq_5_4, uf_0_0, uf_0_1, uf_0_2, uf_0_3, uf_0_4, uf_0_5, uf_1_0, uf_1_1, uf_1_2, uf_1_3, uf_1_4, uf_1_5, uf_2_0, uf_2_1, uf_2_2, uf_2_3, uf_2_4, uf_2_5, uf_3_0, uf_3_1, uf_3_2, uf_3_3, uf_3_4, uf_3_5, uf_4_0, uf_4_1, uf_4_2, uf_4_3, uf_4_4, uf_4_5, uf_5_0, uf_5_1, uf_5_2, uf_5_3, uf_5_4, uf_5_5, js_0, js_2, js_3, js_4, js_5, c10, c19, c24, c34, Int32.not_lt.mp c10, Int32.not_le.mp c19, Int32.not_lt.mp c24, Int32.not_le.mpr c34, if_true, if_false, not_true_eq_false, not_false_eq_true, true_and, and_true, false_and, and_false, true_or, or_true, false_or, or_false, ite_true, ite_false]) ▸ hD
          exact W.vret hx hb hr (fun t ht hW => ⟨⟨(), rfl, trivial, by rw [ht]; exact hP9, va_K.moved hW.alike hK, hD9⟩, hS.F ht⟩) hS.2.2 d_N_link_91
        · have hP9 : va_P (dC, dI) cls0 (nW cI a (j_link N x1 x2 x3 x4)) _ := (show N = j_link N x1 x2 x3 x4 from by simp only [j_link, uq_0_1, uq_0_2, uq_0_3, uq_0_4, uq_0_5, uq_1_0, uq_1_2, uq_1_3, uq_1_4, uq_1_5, uq_2_0, uq_2_1, uq_2_3, uq_2_4, uq_2_5, uq_3_0, uq_3_1, uq_3_2, uq_3_4, uq_3_5, uq_4_0, uq_4_1, uq_4_2, uq_4_3, uq_4_5, uq_5_0, uq_5_1, uq_5_2, uq_5_3, uq_5_4, uf_0_0, uf_0_1, uf_0_2, uf_0_3, uf_0_4, uf_0_5, uf_1_0, uf_1_1, uf_1_2, uf_1_3, uf_1_4, uf_1_5, uf_2_0, uf_2_1, uf_2_2, uf_2_3, uf_2_4, uf_2_5, uf_3_0, uf_3_1, uf_3_2, uf_3_3, uf_3_4, uf_3_5, uf_4_0, uf_4_1, uf_4_2, uf_4_3, uf_4_4, uf_4_5, uf_5_0, uf_5_1, uf_5_2, uf_5_3, uf_5_4, uf_5_5, js_0, js_2, js_3, js_4, js_5, c10, c19, c24, c34, Int32.not_lt.mp c10, Int32.not_le.mp c19, Int32.not_lt.mp c24, Int32.not_lt.mp c34, if_true, if_false, not_true_eq_false, not_false_eq_true, true_and, and_true, false_and, and_false, true_or, or_true, false_or, or_false, ite_true, ite_false]) ▸ hP
          have hD9 : va_D A (nW cI a (j_link N x1 x2 x3 x4)) := (show N = j_link N x1 x2 x3 x4 from by simp only [j_link, uq_0_1, uq_0_2, uq_0_3, uq_0_4, uq_0_5, uq_1_0, uq_1_2, uq_1_3, uq_1_4, uq_1_5, uq_2_0, uq_2_1, uq_2_3, uq_2_4, uq_2_5, uq_3_0, uq_3_1, uq_3_2, uq_3_4, uq_3_5, uq_4_0, uq_4_1, uq_4_2, uq_4_3, uq_4_5, uq_5_0, uq_5_1, uq_5_2, uq_5_3, uq_5_4, uf_0_0, uf_0_1, uf_0_2, uf_0_3, uf_0_4, uf_0_5, uf_1_0, uf_1_1, uf_1_2, uf_1_3, uf_1_4, uf_1_5, uf_2_0, uf_2_1, uf_2_2, uf_2_3, uf_2_4, uf_2_5, uf_3_0, uf_3_1, uf_3_2, uf_3_3, uf_3_4, uf_3_5, uf_4_0, uf_4_1, uf_4_2, uf_4_3, uf_4_4, uf_4_5, uf_5_0, uf_5_1, uf_5_2, uf_5_3, uf_5_4, uf_5_5, js_0, js_2, js_3, js_4, js_5, c10, c19, c24, c34, Int32.not_lt.mp c10, Int32.not_le.mp c19, Int32.not_lt.mp c24, Int32.not_lt.mp c34, if_true, if_false, not_true_eq_false, not_false_eq_true, true_and, and_true, false_and, and_false, true_or, or_true, false_or, or_false, ite_true, ite_false]) ▸ hD
          exact W.vret hx hb hr (fun t ht hW => ⟨⟨(), rfl, trivial, by rw [ht]; exact hP9, va_K.moved hW.alike hK, hD9⟩, hS.F ht⟩) hS.2.2 d_N_link_37

set_option maxHeartbeats 4000000 in
set_option maxRecDepth 100000 in
/-- N_firstAsked -/
theorem c_N_firstAsked (l : Launch) (dC : Nat → ClassId) (dI : Nat → Nat → Nat) (cI : ClassId) (a : Nat → Nat) (N : Mm) (x1 x2 x3 : Int32) : Met l y_N_firstAsked (.code y_N_firstAsked b_N_firstAsked 5 (some .int) :: W0) ({ frames := 2, cells := 0, slots := 0, locals := 44 } : Room) (va_Pc [.ref (a 0), .int x1, .int x2, .int x3] (nR dC dI cI a N)) (QcRead (j_firstAsked N x1 x2 x3)) 0 0 (fun _ => False) := by
  refine Met.ofW (cc := b_N_firstAsked) (maxL := 5) (ret := (some .int)) (by decide) rfl ?_
  intro p e s m args below meth c s₁ B hml hv
  obtain ⟨rfl, hP, hK⟩ := hv
  have hx := B.exec
  have hb := B.bytes
  have hr := B.returns
  have hts1 := atoms_spec (ws := .code y_N_firstAsked b_N_firstAsked 5 (some .int) :: W0) B.pre
  have hts : ∀ w ∈ W0, w.before _ s = true := fun w h => hts1 w (List.mem_cons_of_mem _ h)
  have hown : s.vm.findClass R_N = some m.cls := findClass_of_methodNamed B.named
  have hlocks := B.notSynchronized
  have hl := lv_entry ([.ref (a 0), .int x1, .int x2, .int x3]) (n := 5) (Nat.le_of_ble_eq_true rfl)
  rw [lg_entry_eq]
  generalize (lg_sl ([.ref (a 0), .int x1, .int x2, .int x3]) ++ List.replicate (5 - (lg_sl ([.ref (a 0), .int x1, .int x2, .int x3])).length) Slot.unset).toArray = ls at hl ⊢
  have hl : lv_has ls 5 [(0, .ref (a 0)), (1, .int x1), (2, .int x2), (3, .int x3)] := hl
  refine lv_aload_n hx hb d_N_firstAsked_0 rfl (lv_at hl 0 rfl) ?_
  refine lv_aload_n hx hb d_N_firstAsked_1 rfl (lv_at hl 0 rfl) ?_
  refine lv_iload_n hx hb d_N_firstAsked_2 rfl (lv_at hl 1 rfl) ?_
  refine nCallR (As := [.int x1]) (rest := [.ref (a 0)]) ⟨hx, hb, hml, hown, hts⟩ (c_N_askedBy l dC dI cI a N x1) (cwV 1 hts (gV kml_N_50 kim_N_askedBy ksl_N_askedBy kin_N kcd_N_askedBy) rfl rfl rfl (by decide +kernel) ⟨Nat.le_of_ble_eq_true rfl, Nat.le_of_ble_eq_true rfl⟩) hP hK rfl hl.1 rfl (Nat.le_of_ble_eq_true rfl) d_N_firstAsked_3 ⟨Nat.zero_le _, Nat.zero_le _⟩ ?_
  refine nCallR (As := [.int (j_get N x1 0)]) (rest := []) ⟨hx, hb, hml, hown, hts⟩ (c_N_levelOf l dC dI cI a N (j_get N x1 0)) (cwV 1 hts (gV kml_N_54 kim_N_levelOf ksl_N_levelOf kin_N kcd_N_levelOf) rfl rfl rfl (by decide +kernel) ⟨Nat.le_of_ble_eq_true rfl, Nat.le_of_ble_eq_true rfl⟩) hP hK rfl hl.1 rfl (Nat.le_of_ble_eq_true rfl) d_N_firstAsked_6 ⟨Nat.zero_le _, Nat.zero_le _⟩ ?_
  refine lv_aload_n hx hb d_N_firstAsked_9 rfl (lv_at hl 0 rfl) ?_
  refine lv_aload_n hx hb d_N_firstAsked_10 rfl (lv_at hl 0 rfl) ?_
  refine lv_iload_n hx hb d_N_firstAsked_11 rfl (lv_at hl 2 rfl) ?_
  refine nCallR (As := [.int x2]) (rest := [.ref (a 0), .int (j_levelOf N (j_get N x1 0))]) ⟨hx, hb, hml, hown, hts⟩ (c_N_askedBy l dC dI cI a N x2) (cwV 1 hts (gV kml_N_50 kim_N_askedBy ksl_N_askedBy kin_N kcd_N_askedBy) rfl rfl rfl (by decide +kernel) ⟨Nat.le_of_ble_eq_true rfl, Nat.le_of_ble_eq_true rfl⟩) hP hK rfl hl.1 rfl (Nat.le_of_ble_eq_true rfl) d_N_firstAsked_12 ⟨Nat.zero_le _, Nat.zero_le _⟩ ?_
  refine nCallR (As := [.int (j_get N x2 0)]) (rest := [.int (j_levelOf N (j_get N x1 0))]) ⟨hx, hb, hml, hown, hts⟩ (c_N_levelOf l dC dI cI a N (j_get N x2 0)) (cwV 1 hts (gV kml_N_54 kim_N_levelOf ksl_N_levelOf kin_N kcd_N_levelOf) rfl rfl rfl (by decide +kernel) ⟨Nat.le_of_ble_eq_true rfl, Nat.le_of_ble_eq_true rfl⟩) hP hK rfl hl.1 rfl (Nat.le_of_ble_eq_true rfl) d_N_firstAsked_15 ⟨Nat.zero_le _, Nat.zero_le _⟩ ?_
  refine nMin hx hb (hml.trans hl.1.symm) hown hts kml_N_57 (Nat.le_of_ble_eq_true rfl) (Nat.le_of_ble_eq_true rfl) ⟨Nat.zero_le _, Nat.zero_le _⟩ d_N_firstAsked_18 ?_
  refine lv_istore (lv' := [(4, .int (j_min (j_levelOf N (j_get N x1 0)) (j_levelOf N (j_get N x2 0)))), (0, .ref (a 0)), (1, .int x1), (2, .int x2), (3, .int x3)]) hx hb d_N_firstAsked_21 hl (by decide) rfl (fun ls hl => ?_)
  refine lv_aload_n hx hb d_N_firstAsked_23 rfl (lv_at hl 1 rfl) ?_
  refine lv_iload hx hb d_N_firstAsked_24 (lv_at hl 0 rfl) ?_
  refine lv_aload_n hx hb d_N_firstAsked_26 rfl (lv_at hl 1 rfl) ?_
  refine lv_aload_n hx hb d_N_firstAsked_27 rfl (lv_at hl 1 rfl) ?_
  refine lv_iload_n hx hb d_N_firstAsked_28 rfl (lv_at hl 4 rfl) ?_
  refine nCallR (As := [.int x3]) (rest := [.ref (a 0), .int (j_min (j_levelOf N (j_get N x1 0)) (j_levelOf N (j_get N x2 0))), .ref (a 0)]) ⟨hx, hb, hml, hown, hts⟩ (c_N_askedBy l dC dI cI a N x3) (cwV 1 hts (gV kml_N_50 kim_N_askedBy ksl_N_askedBy kin_N kcd_N_askedBy) rfl rfl rfl (by decide +kernel) ⟨Nat.le_of_ble_eq_true rfl, Nat.le_of_ble_eq_true rfl⟩) hP hK rfl hl.1 rfl (Nat.le_of_ble_eq_true rfl) d_N_firstAsked_29 ⟨Nat.zero_le _, Nat.zero_le _⟩ ?_
  refine nCallR (As := [.int (j_get N x3 0)]) (rest := [.int (j_min (j_levelOf N (j_get N x1 0)) (j_levelOf N (j_get N x2 0))), .ref (a 0)]) ⟨hx, hb, hml, hown, hts⟩ (c_N_levelOf l dC dI cI a N (j_get N x3 0)) (cwV 1 hts (gV kml_N_54 kim_N_levelOf ksl_N_levelOf kin_N kcd_N_levelOf) rfl rfl rfl (by decide +kernel) ⟨Nat.le_of_ble_eq_true rfl, Nat.le_of_ble_eq_true rfl⟩) hP hK rfl hl.1 rfl (Nat.le_of_ble_eq_true rfl) d_N_firstAsked_32 ⟨Nat.zero_le _, Nat.zero_le _⟩ ?_
  refine nMin hx hb (hml.trans hl.1.symm) hown hts kml_N_57 (Nat.le_of_ble_eq_true rfl) (Nat.le_of_ble_eq_true rfl) ⟨Nat.zero_le _, Nat.zero_le _⟩ d_N_firstAsked_35 ?_
  refine nCallR (As := [.int (j_min (j_min (j_levelOf N (j_get N x1 0)) (j_levelOf N (j_get N x2 0))) (j_levelOf N (j_get N x3 0)))]) (rest := []) ⟨hx, hb, hml, hown, hts⟩ (c_N_variableAt l dC dI cI a N (j_min (j_min (j_levelOf N (j_get N x1 0)) (j_levelOf N (j_get N x2 0))) (j_levelOf N (j_get N x3 0)))) (cwV 1 hts (gV kml_N_62 kim_N_variableAt ksl_N_variableAt kin_N kcd_N_variableAt) rfl rfl rfl (by decide +kernel) ⟨Nat.le_of_ble_eq_true rfl, Nat.le_of_ble_eq_true rfl⟩) hP hK rfl hl.1 rfl (Nat.le_of_ble_eq_true rfl) d_N_firstAsked_38 ⟨Nat.zero_le _, Nat.zero_le _⟩ ?_
  exact W.iret (v := (j_variableAt N (j_min (j_min (j_levelOf N (j_get N x1 0)) (j_levelOf N (j_get N x2 0))) (j_levelOf N (j_get N x3 0))))) hx hb hr (fun t ht hW => ⟨by rw [show j_firstAsked N x1 x2 x3 = j_variableAt N (j_min (j_min (j_levelOf N (j_get N x1 0)) (j_levelOf N (j_get N x2 0))) (j_levelOf N (j_get N x3 0))) from by simp only [j_firstAsked, if_true, if_false, not_true_eq_false, not_false_eq_true, true_and, and_true, false_and, and_false, true_or, or_true, false_or, or_false, ite_true, ite_false]], ht⟩) (fun q h => by cases h) d_N_firstAsked_41
end
section
set_option maxHeartbeats 4000000 in
set_option maxRecDepth 100000 in
/-- N_truthFor -/
theorem c_N_truthFor (l : Launch) (dC : Nat → ClassId) (dI : Nat → Nat → Nat) (cI : ClassId) (a : Nat → Nat) (N : Mm) (x1 x2 : Int32) : Met l y_N_truthFor (.code y_N_truthFor b_N_truthFor 6 (some .boolean) :: W0) ({ frames := 1, cells := 0, slots := 0, locals := 23 } : Room) (va_Pc [.ref (a 0), .int x1, .int x2] (nR dC dI cI a N)) (QcRead (j_truthFor N x1 x2)) 0 0 (fun _ => False) := by
  refine Met.ofW (cc := b_N_truthFor) (maxL := 6) (ret := (some .boolean)) (by decide) rfl ?_
  intro p e s m args below meth c s₁ B hml hv
  obtain ⟨rfl, hP, hK⟩ := hv
  have hx := B.exec
  have hb := B.bytes
  have hr := B.returns
  have hts1 := atoms_spec (ws := .code y_N_truthFor b_N_truthFor 6 (some .boolean) :: W0) B.pre
  have hts : ∀ w ∈ W0, w.before _ s = true := fun w h => hts1 w (List.mem_cons_of_mem _ h)
  have hown : s.vm.findClass R_N = some m.cls := findClass_of_methodNamed B.named
  have hlocks := B.notSynchronized
  have hl := lv_entry ([.ref (a 0), .int x1, .int x2]) (n := 6) (Nat.le_of_ble_eq_true rfl)
  rw [lg_entry_eq]
  generalize (lg_sl ([.ref (a 0), .int x1, .int x2]) ++ List.replicate (6 - (lg_sl ([.ref (a 0), .int x1, .int x2])).length) Slot.unset).toArray = ls at hl ⊢
  have hl : lv_has ls 6 [(0, .ref (a 0)), (1, .int x1), (2, .int x2)] := hl
  have loop : ∀ (n : Nat) (i : Nat) (x3 : Int32), i + n = 12 → j_truthFor N x1 x2 = (if j_truthL N x2 n x3 = 1 then 1 else 0) → ∀ (ls : Array Slot), lv_has ls 6 [(4, .int (nI i)), (3, .int x3), (0, .ref (a 0)), (1, .int x1), (2, .int x2)] → W p l e (headSpec (.code y_N_truthFor b_N_truthFor 6 (some .boolean) :: W0) ({ frames := 1, cells := 0, slots := 0, locals := 23 } : Room)).room s m ([.ref (a 0), .int x1, .int x2] : List Value).toArray below meth c s.heap [] 0 0 (MQ below (QcRead (j_truthFor N x1 x2)) ([.ref (a 0), .int x1, .int x2] : List Value).toArray s 0 0 (fun _ => False)) (F0 m 5 ls []) := by
    intro n
    induction n with
    | zero =>
      intro i x3 hi hr0 ls hl
      refine lv_iload hx hb d_N_truthFor_5 (lv_at hl 0 rfl) ?_
      refine lv_bipush (v := 12) hx hb d_N_truthFor_7 (by decide) ?_
      refine lv_icmp_ge (tgt := 59) hx hb d_N_truthFor_9 (by decide) (fun c9 => ?_) (fun c9 => ?_)
      · refine lv_iload_n hx hb d_N_truthFor_59 rfl (lv_at hl 1 rfl) ?_
        refine lv_iconst (v := 1) hx hb d_N_truthFor_60 (by decide) ?_
        refine lv_icmp_ne (tgt := 68) hx hb d_N_truthFor_61 (by decide) (fun c61 => ?_) (fun c61 => ?_)
        · refine lv_iconst (v := 0) hx hb d_N_truthFor_68 (by decide) ?_
          exact W.zret (ty := .boolean) (v := 0) hx hb hr rfl (fun t ht hW => ⟨by rw [show j_truthFor N x1 x2 = 0 from by rw [hr0]; simp only [j_truthL, c9, c61, Int32.not_lt.mpr c9, if_true, if_false, not_true_eq_false, not_false_eq_true, true_and, and_true, false_and, and_false, true_or, or_true, false_or, or_false, ite_true, ite_false]], ht⟩) (fun q h => by cases h) d_N_truthFor_69
        · refine lv_iconst (v := 1) hx hb d_N_truthFor_64 (by decide) ?_
          refine lv_goto (tgt := 69) hx hb d_N_truthFor_65 (by decide) ?_
          exact W.zret (ty := .boolean) (v := 1) hx hb hr rfl (fun t ht hW => ⟨by rw [show j_truthFor N x1 x2 = 1 from by rw [hr0]; (first | (simp only [j_truthL, c9, if_pos c61, Int32.not_lt.mpr c9, if_true, if_false, not_true_eq_false, not_false_eq_true, true_and, and_true, false_and, and_false, true_or, or_true, false_or, or_false, ite_true, ite_false]; done) | (simp only [j_truthL, c9, c61, Int32.not_lt.mpr c9, if_true, if_false, not_true_eq_false, not_false_eq_true, true_and, and_true, false_and, and_false, true_or, or_true, false_or, or_false, ite_true, ite_false]; done) | (simp only [j_truthL, c9, Int32.not_lt.mpr c9, if_true, if_false, not_true_eq_false, not_false_eq_true, true_and, and_true, false_and, and_false, true_or, or_true, false_or, or_false, ite_true, ite_false]; rw [if_pos c61]))], ht⟩) (fun q h => by cases h) d_N_truthFor_69
      · exact absurd (nI_le (a := 12) (b := i) (by omega) (by omega)) c9
    | succ n ih =>
      intro i x3 hi hr0 ls hl
      refine lv_iload hx hb d_N_truthFor_5 (lv_at hl 0 rfl) ?_
      refine lv_bipush (v := 12) hx hb d_N_truthFor_7 (by decide) ?_
      refine lv_icmp_ge (tgt := 59) hx hb d_N_truthFor_9 (by decide) (fun c9 => ?_) (fun c9 => ?_)
      · exact absurd c9 (nI_ge (a := i) (b := 12) (by omega) (by omega))
      · refine lv_iload_n hx hb d_N_truthFor_12 rfl (lv_at hl 1 rfl) ?_
        refine lv_iconst (v := 1) hx hb d_N_truthFor_13 (by decide) ?_
        refine lv_icmp_le (tgt := 59) hx hb d_N_truthFor_14 (by decide) (fun c14 => ?_) (fun c14 => ?_)
        · refine lv_iload_n hx hb d_N_truthFor_59 rfl (lv_at hl 1 rfl) ?_
          refine lv_iconst (v := 1) hx hb d_N_truthFor_60 (by decide) ?_
          refine lv_icmp_ne (tgt := 68) hx hb d_N_truthFor_61 (by decide) (fun c61 => ?_) (fun c61 => ?_)
          · refine lv_iconst (v := 0) hx hb d_N_truthFor_68 (by decide) ?_
            exact W.zret (ty := .boolean) (v := 0) hx hb hr rfl (fun t ht hW => ⟨by rw [show j_truthFor N x1 x2 = 0 from by rw [hr0]; simp only [j_truthL, c9, c14, c61, Int32.not_le.mp c9, Int32.not_lt.mpr c14, if_true, if_false, not_true_eq_false, not_false_eq_true, true_and, and_true, false_and, and_false, true_or, or_true, false_or, or_false, ite_true, ite_false]], ht⟩) (fun q h => by cases h) d_N_truthFor_69
          · refine lv_iconst (v := 1) hx hb d_N_truthFor_64 (by decide) ?_
            refine lv_goto (tgt := 69) hx hb d_N_truthFor_65 (by decide) ?_
            exact W.zret (ty := .boolean) (v := 1) hx hb hr rfl (fun t ht hW => ⟨by rw [show j_truthFor N x1 x2 = 1 from by rw [hr0]; (first | (simp only [j_truthL, c9, c14, if_pos c61, Int32.not_le.mp c9, Int32.not_lt.mpr c14, if_true, if_false, not_true_eq_false, not_false_eq_true, true_and, and_true, false_and, and_false, true_or, or_true, false_or, or_false, ite_true, ite_false]; done) | (simp only [j_truthL, c9, c14, c61, Int32.not_le.mp c9, Int32.not_lt.mpr c14, if_true, if_false, not_true_eq_false, not_false_eq_true, true_and, and_true, false_and, and_false, true_or, or_true, false_or, or_false, ite_true, ite_false]; done) | (simp only [j_truthL, c9, c14, Int32.not_le.mp c9, Int32.not_lt.mpr c14, if_true, if_false, not_true_eq_false, not_false_eq_true, true_and, and_true, false_and, and_false, true_or, or_true, false_or, or_false, ite_true, ite_false]; rw [if_pos c61]))], ht⟩) (fun q h => by cases h) d_N_truthFor_69
        · refine lv_iload_n hx hb d_N_truthFor_17 rfl (lv_at hl 4 rfl) ?_
          refine lv_aload_n hx hb d_N_truthFor_18 rfl (lv_at hl 2 rfl) ?_
          refine lv_iload_n hx hb d_N_truthFor_19 rfl (lv_at hl 1 rfl) ?_
          refine lv_iconst (v := 0) hx hb d_N_truthFor_20 (by decide) ?_
          refine nCallR (As := [.int x3, .int 0]) (rest := [.int x2]) ⟨hx, hb, hml, hown, hts⟩ (c_N_get l dC dI cI a N x3 0) (cwV 2 hts (gV kml_N_46 kim_N_get ksl_N_get kin_N kcd_N_get) rfl rfl rfl (by decide +kernel) ⟨Nat.le_of_ble_eq_true rfl, Nat.le_of_ble_eq_true rfl⟩) hP hK rfl hl.1 rfl (Nat.le_of_ble_eq_true rfl) d_N_truthFor_21 ⟨Nat.zero_le _, Nat.zero_le _⟩ ?_
          refine lv_ishr hx hb d_N_truthFor_24 ?_
          refine lv_iconst (v := 1) hx hb d_N_truthFor_25 (by decide) ?_
          refine lv_iand hx hb d_N_truthFor_26 ?_
          refine lv_if_eq (tgt := 34) hx hb d_N_truthFor_27 (by decide) (fun c27 => ?_) (fun c27 => ?_)
          · refine lv_iconst (v := 0) hx hb d_N_truthFor_34 (by decide) ?_
            refine lv_istore (lv' := [(5, .int 0), (4, .int (nI i)), (3, .int x3), (0, .ref (a 0)), (1, .int x1), (2, .int x2)]) hx hb d_N_truthFor_35 hl (by decide) rfl (fun ls hl => ?_)
            refine lv_aload_n hx hb d_N_truthFor_37 rfl (lv_at hl 3 rfl) ?_
            refine lv_iload_n hx hb d_N_truthFor_38 rfl (lv_at hl 2 rfl) ?_
            refine lv_iload hx hb d_N_truthFor_39 (lv_at hl 0 rfl) ?_
            refine lv_if_eq (tgt := 48) hx hb d_N_truthFor_41 (by decide) (fun c41 => ?_) (fun c41 => ?_)
            · refine lv_iconst (v := 1) hx hb d_N_truthFor_48 (by decide) ?_
              refine nCallR (As := [.int x3, .int 1]) (rest := []) ⟨hx, hb, hml, hown, hts⟩ (c_N_get l dC dI cI a N x3 1) (cwV 2 hts (gV kml_N_46 kim_N_get ksl_N_get kin_N kcd_N_get) rfl rfl rfl (by decide +kernel) ⟨Nat.le_of_ble_eq_true rfl, Nat.le_of_ble_eq_true rfl⟩) hP hK rfl hl.1 rfl (Nat.le_of_ble_eq_true rfl) d_N_truthFor_49 ⟨Nat.zero_le _, Nat.zero_le _⟩ ?_
              refine lv_istore_n (lv' := [(3, .int (j_get N x3 1)), (5, .int 0), (4, .int (nI i)), (0, .ref (a 0)), (1, .int x1), (2, .int x2)]) hx hb d_N_truthFor_52 rfl hl (by decide) rfl (fun ls hl => ?_)
              refine lv_iinc (v := ((nI i) + 1)) (lv' := [(4, .int ((nI i) + 1)), (3, .int (j_get N x3 1)), (5, .int 0), (0, .ref (a 0)), (1, .int x1), (2, .int x2)]) hx hb d_N_truthFor_53 hl (k := 2) rfl rfl (by decide) rfl (fun ls hl => ?_)
              refine lv_goto (tgt := 5) hx hb d_N_truthFor_56 (by decide) ?_
              rw [nI_1] at hl
              exact ih (i + 1) _ (by omega) (by rw [hr0]; (first | (simp only [j_truthL, c9, c14, if_pos c27, Int32.not_le.mp c9, Int32.not_le.mp c14, if_true, if_false, not_true_eq_false, not_false_eq_true, true_and, and_true, false_and, and_false, true_or, or_true, false_or, or_false, ite_true, ite_false]; done) | (simp only [j_truthL, c9, c14, c27, Int32.not_le.mp c9, Int32.not_le.mp c14, if_true, if_false, not_true_eq_false, not_false_eq_true, true_and, and_true, false_and, and_false, true_or, or_true, false_or, or_false, ite_true, ite_false]; done) | (simp only [j_truthL, c9, c14, Int32.not_le.mp c9, Int32.not_le.mp c14, if_true, if_false, not_true_eq_false, not_false_eq_true, true_and, and_true, false_and, and_false, true_or, or_true, false_or, or_false, ite_true, ite_false]; rw [if_pos c27]))) ls (lv_sub hl [0, 1, 3, 4, 5] rfl)
            · exact absurd (by decide) c41
          · refine lv_iconst (v := 1) hx hb d_N_truthFor_30 (by decide) ?_
            refine lv_goto (tgt := 35) hx hb d_N_truthFor_31 (by decide) ?_
            refine lv_istore (lv' := [(5, .int 1), (4, .int (nI i)), (3, .int x3), (0, .ref (a 0)), (1, .int x1), (2, .int x2)]) hx hb d_N_truthFor_35 hl (by decide) rfl (fun ls hl => ?_)
            refine lv_aload_n hx hb d_N_truthFor_37 rfl (lv_at hl 3 rfl) ?_
            refine lv_iload_n hx hb d_N_truthFor_38 rfl (lv_at hl 2 rfl) ?_
            refine lv_iload hx hb d_N_truthFor_39 (lv_at hl 0 rfl) ?_
            refine lv_if_eq (tgt := 48) hx hb d_N_truthFor_41 (by decide) (fun c41 => ?_) (fun c41 => ?_)
            · exact absurd c41 (by decide)
            · refine lv_iconst (v := 2) hx hb d_N_truthFor_44 (by decide) ?_
              refine lv_goto (tgt := 49) hx hb d_N_truthFor_45 (by decide) ?_
              refine nCallR (As := [.int x3, .int 2]) (rest := []) ⟨hx, hb, hml, hown, hts⟩ (c_N_get l dC dI cI a N x3 2) (cwV 2 hts (gV kml_N_46 kim_N_get ksl_N_get kin_N kcd_N_get) rfl rfl rfl (by decide +kernel) ⟨Nat.le_of_ble_eq_true rfl, Nat.le_of_ble_eq_true rfl⟩) hP hK rfl hl.1 rfl (Nat.le_of_ble_eq_true rfl) d_N_truthFor_49 ⟨Nat.zero_le _, Nat.zero_le _⟩ ?_
              refine lv_istore_n (lv' := [(3, .int (j_get N x3 2)), (5, .int 1), (4, .int (nI i)), (0, .ref (a 0)), (1, .int x1), (2, .int x2)]) hx hb d_N_truthFor_52 rfl hl (by decide) rfl (fun ls hl => ?_)
              refine lv_iinc (v := ((nI i) + 1)) (lv' := [(4, .int ((nI i) + 1)), (3, .int (j_get N x3 2)), (5, .int 1), (0, .ref (a 0)), (1, .int x1), (2, .int x2)]) hx hb d_N_truthFor_53 hl (k := 2) rfl rfl (by decide) rfl (fun ls hl => ?_)
              refine lv_goto (tgt := 5) hx hb d_N_truthFor_56 (by decide) ?_
              rw [nI_1] at hl
              exact ih (i + 1) _ (by omega) (by rw [hr0]; simp only [j_truthL, c9, c14, c27, Int32.not_le.mp c9, Int32.not_le.mp c14, if_true, if_false, not_true_eq_false, not_false_eq_true, true_and, and_true, false_and, and_false, true_or, or_true, false_or, or_false, ite_true, ite_false]) ls (lv_sub hl [0, 1, 3, 4, 5] rfl)
  refine lv_iload_n hx hb d_N_truthFor_0 rfl (lv_at hl 1 rfl) ?_
  refine lv_istore_n (lv' := [(3, .int x1), (0, .ref (a 0)), (1, .int x1), (2, .int x2)]) hx hb d_N_truthFor_1 rfl hl (by decide) rfl (fun ls hl => ?_)
  refine lv_iconst (v := 0) hx hb d_N_truthFor_2 (by decide) ?_
  refine lv_istore (lv' := [(4, .int 0), (3, .int x1), (0, .ref (a 0)), (1, .int x1), (2, .int x2)]) hx hb d_N_truthFor_3 hl (by decide) rfl (fun ls hl => ?_)
  exact loop 12 0 x1 rfl rfl ls hl

set_option maxHeartbeats 4000000 in
set_option maxRecDepth 100000 in
/-- N_followed -/
theorem c_N_followed (l : Launch) (dC : Nat → ClassId) (dI : Nat → Nat → Nat) (cI : ClassId) (a : Nat → Nat) (N : Mm) (x1 x2 x3 : Int32) : Met l y_N_followed (.code y_N_followed b_N_followed 7 (some .int) :: W0) ({ frames := 1, cells := 0, slots := 0, locals := 23 } : Room) (va_Pc [.ref (a 0), .int x1, .int x2, .int x3] (nR dC dI cI a N)) (QcRead (j_followed N x1 x2 x3)) 0 0 (fun _ => False) := by
  refine Met.ofW (cc := b_N_followed) (maxL := 7) (ret := (some .int)) (by decide) rfl ?_
  intro p e s m args below meth c s₁ B hml hv
  obtain ⟨rfl, hP, hK⟩ := hv
  have hx := B.exec
  have hb := B.bytes
  have hr := B.returns
  have hts1 := atoms_spec (ws := .code y_N_followed b_N_followed 7 (some .int) :: W0) B.pre
  have hts : ∀ w ∈ W0, w.before _ s = true := fun w h => hts1 w (List.mem_cons_of_mem _ h)
  have hown : s.vm.findClass R_N = some m.cls := findClass_of_methodNamed B.named
  have hlocks := B.notSynchronized
  have hl := lv_entry ([.ref (a 0), .int x1, .int x2, .int x3]) (n := 7) (Nat.le_of_ble_eq_true rfl)
  rw [lg_entry_eq]
  generalize (lg_sl ([.ref (a 0), .int x1, .int x2, .int x3]) ++ List.replicate (7 - (lg_sl ([.ref (a 0), .int x1, .int x2, .int x3])).length) Slot.unset).toArray = ls at hl ⊢
  have hl : lv_has ls 7 [(0, .ref (a 0)), (1, .int x1), (2, .int x2), (3, .int x3)] := hl
  have loop : ∀ (n : Nat) (i : Nat) (x4 : Int32), i + n = 12 → j_followed N x1 x2 x3 = j_followL N x2 x3 n x4 → ∀ (ls : Array Slot), lv_has ls 7 [(5, .int (nI i)), (4, .int x4), (0, .ref (a 0)), (1, .int x1), (2, .int x2), (3, .int x3)] → W p l e (headSpec (.code y_N_followed b_N_followed 7 (some .int) :: W0) ({ frames := 1, cells := 0, slots := 0, locals := 23 } : Room)).room s m ([.ref (a 0), .int x1, .int x2, .int x3] : List Value).toArray below meth c s.heap [] 0 0 (MQ below (QcRead (j_followed N x1 x2 x3)) ([.ref (a 0), .int x1, .int x2, .int x3] : List Value).toArray s 0 0 (fun _ => False)) (F0 m 6 ls []) := by
    intro n
    induction n with
    | zero =>
      intro i x4 hi hr0 ls hl
      refine lv_iload hx hb d_N_followed_6 (lv_at hl 0 rfl) ?_
      refine lv_bipush (v := 12) hx hb d_N_followed_8 (by decide) ?_
      refine lv_icmp_ge (tgt := 72) hx hb d_N_followed_10 (by decide) (fun c10 => ?_) (fun c10 => ?_)
      · refine lv_iload hx hb d_N_followed_72 (lv_at hl 1 rfl) ?_
        exact W.iret (v := x4) hx hb hr (fun t ht hW => ⟨by rw [show j_followed N x1 x2 x3 = x4 from by rw [hr0]; simp only [j_followL, c10, Int32.not_lt.mpr c10, if_true, if_false, not_true_eq_false, not_false_eq_true, true_and, and_true, false_and, and_false, true_or, or_true, false_or, or_false, ite_true, ite_false]], ht⟩) (fun q h => by cases h) d_N_followed_74
      · exact absurd (nI_le (a := 12) (b := i) (by omega) (by omega)) c10
    | succ n ih =>
      intro i x4 hi hr0 ls hl
      refine lv_iload hx hb d_N_followed_6 (lv_at hl 0 rfl) ?_
      refine lv_bipush (v := 12) hx hb d_N_followed_8 (by decide) ?_
      refine lv_icmp_ge (tgt := 72) hx hb d_N_followed_10 (by decide) (fun c10 => ?_) (fun c10 => ?_)
      · exact absurd c10 (nI_ge (a := i) (b := 12) (by omega) (by omega))
      · refine lv_iload_n hx hb d_N_followed_13 rfl (lv_at hl 4 rfl) ?_
        refine lv_aload_n hx hb d_N_followed_14 rfl (lv_at hl 2 rfl) ?_
        refine lv_iload hx hb d_N_followed_15 (lv_at hl 1 rfl) ?_
        refine lv_iconst (v := 0) hx hb d_N_followed_17 (by decide) ?_
        refine nCallR (As := [.int x4, .int 0]) (rest := [.int x2]) ⟨hx, hb, hml, hown, hts⟩ (c_N_get l dC dI cI a N x4 0) (cwV 2 hts (gV kml_N_46 kim_N_get ksl_N_get kin_N kcd_N_get) rfl rfl rfl (by decide +kernel) ⟨Nat.le_of_ble_eq_true rfl, Nat.le_of_ble_eq_true rfl⟩) hP hK rfl hl.1 rfl (Nat.le_of_ble_eq_true rfl) d_N_followed_18 ⟨Nat.zero_le _, Nat.zero_le _⟩ ?_
        refine lv_ishr hx hb d_N_followed_21 ?_
        refine lv_iconst (v := 1) hx hb d_N_followed_22 (by decide) ?_
        refine lv_iand hx hb d_N_followed_23 ?_
        refine lv_if_eq (tgt := 72) hx hb d_N_followed_24 (by decide) (fun c24 => ?_) (fun c24 => ?_)
        · refine lv_iload hx hb d_N_followed_72 (lv_at hl 1 rfl) ?_
          exact W.iret (v := x4) hx hb hr (fun t ht hW => ⟨by rw [show j_followed N x1 x2 x3 = x4 from by rw [hr0]; (first | (simp only [j_followL, c10, if_pos c24, Int32.not_le.mp c10, if_true, if_false, not_true_eq_false, not_false_eq_true, true_and, and_true, false_and, and_false, true_or, or_true, false_or, or_false, ite_true, ite_false]; done) | (simp only [j_followL, c10, c24, Int32.not_le.mp c10, if_true, if_false, not_true_eq_false, not_false_eq_true, true_and, and_true, false_and, and_false, true_or, or_true, false_or, or_false, ite_true, ite_false]; done) | (simp only [j_followL, c10, Int32.not_le.mp c10, if_true, if_false, not_true_eq_false, not_false_eq_true, true_and, and_true, false_and, and_false, true_or, or_true, false_or, or_false, ite_true, ite_false]; rw [if_pos c24]))], ht⟩) (fun q h => by cases h) d_N_followed_74
        · refine lv_iload_n hx hb d_N_followed_27 rfl (lv_at hl 5 rfl) ?_
          refine lv_aload_n hx hb d_N_followed_28 rfl (lv_at hl 2 rfl) ?_
          refine lv_iload hx hb d_N_followed_29 (lv_at hl 1 rfl) ?_
          refine lv_iconst (v := 0) hx hb d_N_followed_31 (by decide) ?_
          refine nCallR (As := [.int x4, .int 0]) (rest := [.int x3]) ⟨hx, hb, hml, hown, hts⟩ (c_N_get l dC dI cI a N x4 0) (cwV 2 hts (gV kml_N_46 kim_N_get ksl_N_get kin_N kcd_N_get) rfl rfl rfl (by decide +kernel) ⟨Nat.le_of_ble_eq_true rfl, Nat.le_of_ble_eq_true rfl⟩) hP hK rfl hl.1 rfl (Nat.le_of_ble_eq_true rfl) d_N_followed_32 ⟨Nat.zero_le _, Nat.zero_le _⟩ ?_
          refine lv_ishr hx hb d_N_followed_35 ?_
          refine lv_iconst (v := 1) hx hb d_N_followed_36 (by decide) ?_
          refine lv_iand hx hb d_N_followed_37 ?_
          refine lv_if_eq (tgt := 45) hx hb d_N_followed_38 (by decide) (fun c38 => ?_) (fun c38 => ?_)
          · refine lv_iconst (v := 0) hx hb d_N_followed_45 (by decide) ?_
            refine lv_istore (lv' := [(6, .int 0), (5, .int (nI i)), (4, .int x4), (0, .ref (a 0)), (1, .int x1), (2, .int x2), (3, .int x3)]) hx hb d_N_followed_46 hl (by decide) rfl (fun ls hl => ?_)
            refine lv_aload_n hx hb d_N_followed_48 rfl (lv_at hl 3 rfl) ?_
            refine lv_iload hx hb d_N_followed_49 (lv_at hl 2 rfl) ?_
            refine lv_iload hx hb d_N_followed_51 (lv_at hl 0 rfl) ?_
            refine lv_if_eq (tgt := 60) hx hb d_N_followed_53 (by decide) (fun c53 => ?_) (fun c53 => ?_)
            · refine lv_iconst (v := 1) hx hb d_N_followed_60 (by decide) ?_
              refine nCallR (As := [.int x4, .int 1]) (rest := []) ⟨hx, hb, hml, hown, hts⟩ (c_N_get l dC dI cI a N x4 1) (cwV 2 hts (gV kml_N_46 kim_N_get ksl_N_get kin_N kcd_N_get) rfl rfl rfl (by decide +kernel) ⟨Nat.le_of_ble_eq_true rfl, Nat.le_of_ble_eq_true rfl⟩) hP hK rfl hl.1 rfl (Nat.le_of_ble_eq_true rfl) d_N_followed_61 ⟨Nat.zero_le _, Nat.zero_le _⟩ ?_
              refine lv_istore (lv' := [(4, .int (j_get N x4 1)), (6, .int 0), (5, .int (nI i)), (0, .ref (a 0)), (1, .int x1), (2, .int x2), (3, .int x3)]) hx hb d_N_followed_64 hl (by decide) rfl (fun ls hl => ?_)
              refine lv_iinc (v := ((nI i) + 1)) (lv' := [(5, .int ((nI i) + 1)), (4, .int (j_get N x4 1)), (6, .int 0), (0, .ref (a 0)), (1, .int x1), (2, .int x2), (3, .int x3)]) hx hb d_N_followed_66 hl (k := 2) rfl rfl (by decide) rfl (fun ls hl => ?_)
              refine lv_goto (tgt := 6) hx hb d_N_followed_69 (by decide) ?_
              rw [nI_1] at hl
              exact ih (i + 1) _ (by omega) (by rw [hr0]; (first | (simp only [j_followL, c10, c24, if_pos c38, Int32.not_le.mp c10, if_true, if_false, not_true_eq_false, not_false_eq_true, true_and, and_true, false_and, and_false, true_or, or_true, false_or, or_false, ite_true, ite_false]; done) | (simp only [j_followL, c10, c24, c38, Int32.not_le.mp c10, if_true, if_false, not_true_eq_false, not_false_eq_true, true_and, and_true, false_and, and_false, true_or, or_true, false_or, or_false, ite_true, ite_false]; done) | (simp only [j_followL, c10, c24, Int32.not_le.mp c10, if_true, if_false, not_true_eq_false, not_false_eq_true, true_and, and_true, false_and, and_false, true_or, or_true, false_or, or_false, ite_true, ite_false]; rw [if_pos c38]))) ls (lv_sub hl [0, 1, 3, 4, 5, 6] rfl)
            · exact absurd (by decide) c53
          · refine lv_iconst (v := 1) hx hb d_N_followed_41 (by decide) ?_
            refine lv_goto (tgt := 46) hx hb d_N_followed_42 (by decide) ?_
            refine lv_istore (lv' := [(6, .int 1), (5, .int (nI i)), (4, .int x4), (0, .ref (a 0)), (1, .int x1), (2, .int x2), (3, .int x3)]) hx hb d_N_followed_46 hl (by decide) rfl (fun ls hl => ?_)
            refine lv_aload_n hx hb d_N_followed_48 rfl (lv_at hl 3 rfl) ?_
            refine lv_iload hx hb d_N_followed_49 (lv_at hl 2 rfl) ?_
            refine lv_iload hx hb d_N_followed_51 (lv_at hl 0 rfl) ?_
            refine lv_if_eq (tgt := 60) hx hb d_N_followed_53 (by decide) (fun c53 => ?_) (fun c53 => ?_)
            · exact absurd c53 (by decide)
            · refine lv_iconst (v := 2) hx hb d_N_followed_56 (by decide) ?_
              refine lv_goto (tgt := 61) hx hb d_N_followed_57 (by decide) ?_
              refine nCallR (As := [.int x4, .int 2]) (rest := []) ⟨hx, hb, hml, hown, hts⟩ (c_N_get l dC dI cI a N x4 2) (cwV 2 hts (gV kml_N_46 kim_N_get ksl_N_get kin_N kcd_N_get) rfl rfl rfl (by decide +kernel) ⟨Nat.le_of_ble_eq_true rfl, Nat.le_of_ble_eq_true rfl⟩) hP hK rfl hl.1 rfl (Nat.le_of_ble_eq_true rfl) d_N_followed_61 ⟨Nat.zero_le _, Nat.zero_le _⟩ ?_
              refine lv_istore (lv' := [(4, .int (j_get N x4 2)), (6, .int 1), (5, .int (nI i)), (0, .ref (a 0)), (1, .int x1), (2, .int x2), (3, .int x3)]) hx hb d_N_followed_64 hl (by decide) rfl (fun ls hl => ?_)
              refine lv_iinc (v := ((nI i) + 1)) (lv' := [(5, .int ((nI i) + 1)), (4, .int (j_get N x4 2)), (6, .int 1), (0, .ref (a 0)), (1, .int x1), (2, .int x2), (3, .int x3)]) hx hb d_N_followed_66 hl (k := 2) rfl rfl (by decide) rfl (fun ls hl => ?_)
              refine lv_goto (tgt := 6) hx hb d_N_followed_69 (by decide) ?_
              rw [nI_1] at hl
              exact ih (i + 1) _ (by omega) (by rw [hr0]; simp only [j_followL, c10, c24, c38, Int32.not_le.mp c10, if_true, if_false, not_true_eq_false, not_false_eq_true, true_and, and_true, false_and, and_false, true_or, or_true, false_or, or_false, ite_true, ite_false]) ls (lv_sub hl [0, 1, 3, 4, 5, 6] rfl)
  refine lv_iload_n hx hb d_N_followed_0 rfl (lv_at hl 1 rfl) ?_
  refine lv_istore (lv' := [(4, .int x1), (0, .ref (a 0)), (1, .int x1), (2, .int x2), (3, .int x3)]) hx hb d_N_followed_1 hl (by decide) rfl (fun ls hl => ?_)
  refine lv_iconst (v := 0) hx hb d_N_followed_3 (by decide) ?_
  refine lv_istore (lv' := [(5, .int 0), (4, .int x1), (0, .ref (a 0)), (1, .int x1), (2, .int x2), (3, .int x3)]) hx hb d_N_followed_4 hl (by decide) rfl (fun ls hl => ?_)
  exact loop 12 0 x1 rfl rfl ls hl

set_option maxHeartbeats 4000000 in
set_option maxRecDepth 100000 in
/-- N_isMisplaced -/
theorem c_N_isMisplaced (l : Launch) (dC : Nat → ClassId) (dI : Nat → Nat → Nat) (cI : ClassId) (a : Nat → Nat) (N : Mm) (x1 x2 : Int32) : Met l y_N_isMisplaced (.code y_N_isMisplaced b_N_isMisplaced 7 (some .boolean) :: W0) ({ frames := 2, cells := 0, slots := 0, locals := 44 } : Room) (va_Pc [.ref (a 0), .int x1, .int x2] (nR dC dI cI a N)) (QcRead (j_isMisplaced N x1 x2)) 0 0 (fun _ => False) := by
  refine Met.ofW (cc := b_N_isMisplaced) (maxL := 7) (ret := (some .boolean)) (by decide) rfl ?_
  intro p e s m args below meth c s₁ B hml hv
  obtain ⟨rfl, hP, hK⟩ := hv
  have hx := B.exec
  have hb := B.bytes
  have hr := B.returns
  have hts1 := atoms_spec (ws := .code y_N_isMisplaced b_N_isMisplaced 7 (some .boolean) :: W0) B.pre
  have hts : ∀ w ∈ W0, w.before _ s = true := fun w h => hts1 w (List.mem_cons_of_mem _ h)
  have hown : s.vm.findClass R_N = some m.cls := findClass_of_methodNamed B.named
  have hlocks := B.notSynchronized
  have hl := lv_entry ([.ref (a 0), .int x1, .int x2]) (n := 7) (Nat.le_of_ble_eq_true rfl)
  rw [lg_entry_eq]
  generalize (lg_sl ([.ref (a 0), .int x1, .int x2]) ++ List.replicate (7 - (lg_sl ([.ref (a 0), .int x1, .int x2])).length) Slot.unset).toArray = ls at hl ⊢
  have hl : lv_has ls 7 [(0, .ref (a 0)), (1, .int x1), (2, .int x2)] := hl
  refine lv_aload_n hx hb d_N_isMisplaced_0 rfl (lv_at hl 0 rfl) ?_
  refine lv_iload_n hx hb d_N_isMisplaced_1 rfl (lv_at hl 1 rfl) ?_
  refine lv_iconst (v := 0) hx hb d_N_isMisplaced_2 (by decide) ?_
  refine nCallR (As := [.int x1, .int 0]) (rest := []) ⟨hx, hb, hml, hown, hts⟩ (c_N_get l dC dI cI a N x1 0) (cwV 2 hts (gV kml_N_46 kim_N_get ksl_N_get kin_N kcd_N_get) rfl rfl rfl (by decide +kernel) ⟨Nat.le_of_ble_eq_true rfl, Nat.le_of_ble_eq_true rfl⟩) hP hK rfl hl.1 rfl (Nat.le_of_ble_eq_true rfl) d_N_isMisplaced_3 ⟨Nat.zero_le _, Nat.zero_le _⟩ ?_
  refine lv_istore_n (lv' := [(3, .int (j_get N x1 0)), (0, .ref (a 0)), (1, .int x1), (2, .int x2)]) hx hb d_N_isMisplaced_6 rfl hl (by decide) rfl (fun ls hl => ?_)
  refine lv_aload_n hx hb d_N_isMisplaced_7 rfl (lv_at hl 1 rfl) ?_
  refine lv_iload_n hx hb d_N_isMisplaced_8 rfl (lv_at hl 2 rfl) ?_
  refine lv_iconst (v := 1) hx hb d_N_isMisplaced_9 (by decide) ?_
  refine nCallR (As := [.int x1, .int 1]) (rest := []) ⟨hx, hb, hml, hown, hts⟩ (c_N_get l dC dI cI a N x1 1) (cwV 2 hts (gV kml_N_46 kim_N_get ksl_N_get kin_N kcd_N_get) rfl rfl rfl (by decide +kernel) ⟨Nat.le_of_ble_eq_true rfl, Nat.le_of_ble_eq_true rfl⟩) hP hK rfl hl.1 rfl (Nat.le_of_ble_eq_true rfl) d_N_isMisplaced_10 ⟨Nat.zero_le _, Nat.zero_le _⟩ ?_
  refine lv_istore (lv' := [(4, .int (j_get N x1 1)), (3, .int (j_get N x1 0)), (0, .ref (a 0)), (1, .int x1), (2, .int x2)]) hx hb d_N_isMisplaced_13 hl (by decide) rfl (fun ls hl => ?_)
  refine lv_aload_n hx hb d_N_isMisplaced_15 rfl (lv_at hl 2 rfl) ?_
  refine lv_iload_n hx hb d_N_isMisplaced_16 rfl (lv_at hl 3 rfl) ?_
  refine lv_iconst (v := 2) hx hb d_N_isMisplaced_17 (by decide) ?_
  refine nCallR (As := [.int x1, .int 2]) (rest := []) ⟨hx, hb, hml, hown, hts⟩ (c_N_get l dC dI cI a N x1 2) (cwV 2 hts (gV kml_N_46 kim_N_get ksl_N_get kin_N kcd_N_get) rfl rfl rfl (by decide +kernel) ⟨Nat.le_of_ble_eq_true rfl, Nat.le_of_ble_eq_true rfl⟩) hP hK rfl hl.1 rfl (Nat.le_of_ble_eq_true rfl) d_N_isMisplaced_18 ⟨Nat.zero_le _, Nat.zero_le _⟩ ?_
  refine lv_istore (lv' := [(5, .int (j_get N x1 2)), (4, .int (j_get N x1 1)), (3, .int (j_get N x1 0)), (0, .ref (a 0)), (1, .int x1), (2, .int x2)]) hx hb d_N_isMisplaced_21 hl (by decide) rfl (fun ls hl => ?_)
  refine lv_aload_n hx hb d_N_isMisplaced_23 rfl (lv_at hl 3 rfl) ?_
  refine lv_aload_n hx hb d_N_isMisplaced_24 rfl (lv_at hl 3 rfl) ?_
  refine lv_iload hx hb d_N_isMisplaced_25 (lv_at hl 1 rfl) ?_
  refine nCallR (As := [.int (j_get N x1 1)]) (rest := [.ref (a 0)]) ⟨hx, hb, hml, hown, hts⟩ (c_N_askedBy l dC dI cI a N (j_get N x1 1)) (cwV 1 hts (gV kml_N_50 kim_N_askedBy ksl_N_askedBy kin_N kcd_N_askedBy) rfl rfl rfl (by decide +kernel) ⟨Nat.le_of_ble_eq_true rfl, Nat.le_of_ble_eq_true rfl⟩) hP hK rfl hl.1 rfl (Nat.le_of_ble_eq_true rfl) d_N_isMisplaced_27 ⟨Nat.zero_le _, Nat.zero_le _⟩ ?_
  refine nCallR (As := [.int (j_get N (j_get N x1 1) 0)]) (rest := []) ⟨hx, hb, hml, hown, hts⟩ (c_N_levelOf l dC dI cI a N (j_get N (j_get N x1 1) 0)) (cwV 1 hts (gV kml_N_54 kim_N_levelOf ksl_N_levelOf kin_N kcd_N_levelOf) rfl rfl rfl (by decide +kernel) ⟨Nat.le_of_ble_eq_true rfl, Nat.le_of_ble_eq_true rfl⟩) hP hK rfl hl.1 rfl (Nat.le_of_ble_eq_true rfl) d_N_isMisplaced_30 ⟨Nat.zero_le _, Nat.zero_le _⟩ ?_
  refine lv_aload_n hx hb d_N_isMisplaced_33 rfl (lv_at hl 3 rfl) ?_
  refine lv_aload_n hx hb d_N_isMisplaced_34 rfl (lv_at hl 3 rfl) ?_
  refine lv_iload hx hb d_N_isMisplaced_35 (lv_at hl 0 rfl) ?_
  refine nCallR (As := [.int (j_get N x1 2)]) (rest := [.ref (a 0), .int (j_levelOf N (j_get N (j_get N x1 1) 0))]) ⟨hx, hb, hml, hown, hts⟩ (c_N_askedBy l dC dI cI a N (j_get N x1 2)) (cwV 1 hts (gV kml_N_50 kim_N_askedBy ksl_N_askedBy kin_N kcd_N_askedBy) rfl rfl rfl (by decide +kernel) ⟨Nat.le_of_ble_eq_true rfl, Nat.le_of_ble_eq_true rfl⟩) hP hK rfl hl.1 rfl (Nat.le_of_ble_eq_true rfl) d_N_isMisplaced_37 ⟨Nat.zero_le _, Nat.zero_le _⟩ ?_
  refine nCallR (As := [.int (j_get N (j_get N x1 2) 0)]) (rest := [.int (j_levelOf N (j_get N (j_get N x1 1) 0))]) ⟨hx, hb, hml, hown, hts⟩ (c_N_levelOf l dC dI cI a N (j_get N (j_get N x1 2) 0)) (cwV 1 hts (gV kml_N_54 kim_N_levelOf ksl_N_levelOf kin_N kcd_N_levelOf) rfl rfl rfl (by decide +kernel) ⟨Nat.le_of_ble_eq_true rfl, Nat.le_of_ble_eq_true rfl⟩) hP hK rfl hl.1 rfl (Nat.le_of_ble_eq_true rfl) d_N_isMisplaced_40 ⟨Nat.zero_le _, Nat.zero_le _⟩ ?_
  refine nMin hx hb (hml.trans hl.1.symm) hown hts kml_N_57 (Nat.le_of_ble_eq_true rfl) (Nat.le_of_ble_eq_true rfl) ⟨Nat.zero_le _, Nat.zero_le _⟩ d_N_isMisplaced_43 ?_
  refine lv_istore (lv' := [(6, .int (j_min (j_levelOf N (j_get N (j_get N x1 1) 0)) (j_levelOf N (j_get N (j_get N x1 2) 0)))), (5, .int (j_get N x1 2)), (4, .int (j_get N x1 1)), (3, .int (j_get N x1 0)), (0, .ref (a 0)), (1, .int x1), (2, .int x2)]) hx hb d_N_isMisplaced_46 hl (by decide) rfl (fun ls hl => ?_)
  refine lv_iload hx hb d_N_isMisplaced_48 (lv_at hl 2 rfl) ?_
  refine lv_iload hx hb d_N_isMisplaced_50 (lv_at hl 1 rfl) ?_
  refine lv_icmp_eq (tgt := 77) hx hb d_N_isMisplaced_52 (by decide) (fun c52 => ?_) (fun c52 => ?_)
  · refine lv_iconst (v := 1) hx hb d_N_isMisplaced_77 (by decide) ?_
    refine lv_goto (tgt := 82) hx hb d_N_isMisplaced_78 (by decide) ?_
    exact W.zret (ty := .boolean) (v := 1) hx hb hr rfl (fun t ht hW => ⟨by rw [show j_isMisplaced N x1 x2 = 1 from by (first | (simp only [j_isMisplaced, if_pos c52, if_true, if_false, not_true_eq_false, not_false_eq_true, true_and, and_true, false_and, and_false, true_or, or_true, false_or, or_false, ite_true, ite_false]; done) | (simp only [j_isMisplaced, c52, if_true, if_false, not_true_eq_false, not_false_eq_true, true_and, and_true, false_and, and_false, true_or, or_true, false_or, or_false, ite_true, ite_false]; done) | (simp only [j_isMisplaced, if_true, if_false, not_true_eq_false, not_false_eq_true, true_and, and_true, false_and, and_false, true_or, or_true, false_or, or_false, ite_true, ite_false]; rw [if_pos c52]))], ht⟩) (fun q h => by cases h) d_N_isMisplaced_82
  · refine lv_aload_n hx hb d_N_isMisplaced_55 rfl (lv_at hl 4 rfl) ?_
    refine lv_iload_n hx hb d_N_isMisplaced_56 rfl (lv_at hl 3 rfl) ?_
    refine nCallR (As := [.int (j_get N x1 0)]) (rest := []) ⟨hx, hb, hml, hown, hts⟩ (c_N_levelOf l dC dI cI a N (j_get N x1 0)) (cwV 1 hts (gV kml_N_54 kim_N_levelOf ksl_N_levelOf kin_N kcd_N_levelOf) rfl rfl rfl (by decide +kernel) ⟨Nat.le_of_ble_eq_true rfl, Nat.le_of_ble_eq_true rfl⟩) hP hK rfl hl.1 rfl (Nat.le_of_ble_eq_true rfl) d_N_isMisplaced_57 ⟨Nat.zero_le _, Nat.zero_le _⟩ ?_
    refine lv_iload hx hb d_N_isMisplaced_60 (lv_at hl 0 rfl) ?_
    refine lv_icmp_ge (tgt := 77) hx hb d_N_isMisplaced_62 (by decide) (fun c62 => ?_) (fun c62 => ?_)
    · refine lv_iconst (v := 1) hx hb d_N_isMisplaced_77 (by decide) ?_
      refine lv_goto (tgt := 82) hx hb d_N_isMisplaced_78 (by decide) ?_
      exact W.zret (ty := .boolean) (v := 1) hx hb hr rfl (fun t ht hW => ⟨by rw [show j_isMisplaced N x1 x2 = 1 from by simp only [j_isMisplaced, c52, c62, Int32.not_lt.mpr c62, if_true, if_false, not_true_eq_false, not_false_eq_true, true_and, and_true, false_and, and_false, true_or, or_true, false_or, or_false, ite_true, ite_false]], ht⟩) (fun q h => by cases h) d_N_isMisplaced_82
    · refine lv_iload_n hx hb d_N_isMisplaced_65 rfl (lv_at hl 3 rfl) ?_
      refine lv_iload hx hb d_N_isMisplaced_66 (lv_at hl 2 rfl) ?_
      refine lv_iload hx hb d_N_isMisplaced_68 (lv_at hl 1 rfl) ?_
      refine nCallS (As := [.int (j_get N x1 0), .int (j_get N x1 1), .int (j_get N x1 2)]) (rest := []) ⟨hx, hb, hml, hown, hts⟩ (c_N_chainFor l (j_get N x1 0) (j_get N x1 1) (j_get N x1 2)) (va_cwS 3 hts (gS kml_N_69 kst_N_chainFor kin_N kcd_N_chainFor) rfl rfl rfl (by decide +kernel) ⟨Nat.le_of_ble_eq_true rfl, Nat.le_of_ble_eq_true rfl⟩) rfl hl.1 rfl (Nat.le_of_ble_eq_true rfl) d_N_isMisplaced_70 ⟨Nat.zero_le _, Nat.zero_le _⟩ ?_
      refine lv_iload_n hx hb d_N_isMisplaced_73 rfl (lv_at hl 6 rfl) ?_
      refine lv_icmp_eq (tgt := 81) hx hb d_N_isMisplaced_74 (by decide) (fun c74 => ?_) (fun c74 => ?_)
      · refine lv_iconst (v := 0) hx hb d_N_isMisplaced_81 (by decide) ?_
        exact W.zret (ty := .boolean) (v := 0) hx hb hr rfl (fun t ht hW => ⟨by rw [show j_isMisplaced N x1 x2 = 0 from by (first | (simp only [j_isMisplaced, c52, c62, if_pos c74, Int32.not_le.mp c62, if_true, if_false, not_true_eq_false, not_false_eq_true, true_and, and_true, false_and, and_false, true_or, or_true, false_or, or_false, ite_true, ite_false]; done) | (simp only [j_isMisplaced, c52, c62, c74, Int32.not_le.mp c62, if_true, if_false, not_true_eq_false, not_false_eq_true, true_and, and_true, false_and, and_false, true_or, or_true, false_or, or_false, ite_true, ite_false]; done) | (simp only [j_isMisplaced, c52, c62, Int32.not_le.mp c62, if_true, if_false, not_true_eq_false, not_false_eq_true, true_and, and_true, false_and, and_false, true_or, or_true, false_or, or_false, ite_true, ite_false]; rw [if_pos c74]))], ht⟩) (fun q h => by cases h) d_N_isMisplaced_82
      · refine lv_iconst (v := 1) hx hb d_N_isMisplaced_77 (by decide) ?_
        refine lv_goto (tgt := 82) hx hb d_N_isMisplaced_78 (by decide) ?_
        exact W.zret (ty := .boolean) (v := 1) hx hb hr rfl (fun t ht hW => ⟨by rw [show j_isMisplaced N x1 x2 = 1 from by simp only [j_isMisplaced, c52, c62, c74, Int32.not_le.mp c62, if_true, if_false, not_true_eq_false, not_false_eq_true, true_and, and_true, false_and, and_false, true_or, or_true, false_or, or_false, ite_true, ite_false]], ht⟩) (fun q h => by cases h) d_N_isMisplaced_82

set_option maxHeartbeats 4000000 in
set_option maxRecDepth 100000 in
/-- N_isThereTwice -/
theorem c_N_isThereTwice (l : Launch) (dC : Nat → ClassId) (dI : Nat → Nat → Nat) (cI : ClassId) (a : Nat → Nat) (N : Mm) (x1 : Int32) : Met l y_N_isThereTwice (.code y_N_isThereTwice b_N_isThereTwice 4 (some .boolean) :: W0) ({ frames := 1, cells := 0, slots := 0, locals := 23 } : Room) (va_Pc [.ref (a 0), .int x1] (nR dC dI cI a N)) (QcRead (j_isThereTwice N x1)) 0 0 (fun _ => False) := by
  refine Met.ofW (cc := b_N_isThereTwice) (maxL := 4) (ret := (some .boolean)) (by decide) rfl ?_
  intro p e s m args below meth c s₁ B hml hv
  obtain ⟨rfl, hP, hK⟩ := hv
  have hx := B.exec
  have hb := B.bytes
  have hr := B.returns
  have hts1 := atoms_spec (ws := .code y_N_isThereTwice b_N_isThereTwice 4 (some .boolean) :: W0) B.pre
  have hts : ∀ w ∈ W0, w.before _ s = true := fun w h => hts1 w (List.mem_cons_of_mem _ h)
  have hown : s.vm.findClass R_N = some m.cls := findClass_of_methodNamed B.named
  have hlocks := B.notSynchronized
  have hl := lv_entry ([.ref (a 0), .int x1]) (n := 4) (Nat.le_of_ble_eq_true rfl)
  rw [lg_entry_eq]
  generalize (lg_sl ([.ref (a 0), .int x1]) ++ List.replicate (4 - (lg_sl ([.ref (a 0), .int x1])).length) Slot.unset).toArray = ls at hl ⊢
  have hl : lv_has ls 4 [(0, .ref (a 0)), (1, .int x1)] := hl
  have loop : ∀ (n : Nat) (i : Nat) (x2 : Int32), i + n = 24800 → j_isThereTwice N x1 = j_twiceL N x1 n x2 → ∀ (ls : Array Slot), lv_has ls 4 [(3, .int (nI i)), (2, .int x2), (0, .ref (a 0)), (1, .int x1)] → W p l e (headSpec (.code y_N_isThereTwice b_N_isThereTwice 4 (some .boolean) :: W0) ({ frames := 1, cells := 0, slots := 0, locals := 23 } : Room)).room s m ([.ref (a 0), .int x1] : List Value).toArray below meth c s.heap [] 0 0 (MQ below (QcRead (j_isThereTwice N x1)) ([.ref (a 0), .int x1] : List Value).toArray s 0 0 (fun _ => False)) (F0 m 9 ls []) := by
    intro n
    induction n with
    | zero =>
      intro i x2 hi hr0 ls hl
      refine lv_iload_n hx hb d_N_isThereTwice_9 rfl (lv_at hl 0 rfl) ?_
      refine lv_sipush (v := 24800) hx hb d_N_isThereTwice_10 (by decide) ?_
      refine lv_icmp_ge (tgt := 65) hx hb d_N_isThereTwice_13 (by decide) (fun c13 => ?_) (fun c13 => ?_)
      · refine lv_iconst (v := 0) hx hb d_N_isThereTwice_65 (by decide) ?_
        exact W.zret (ty := .boolean) (v := 0) hx hb hr rfl (fun t ht hW => ⟨by rw [show j_isThereTwice N x1 = 0 from by rw [hr0]; simp only [j_twiceL, c13, Int32.not_lt.mpr c13, if_true, if_false, not_true_eq_false, not_false_eq_true, true_and, and_true, false_and, and_false, true_or, or_true, false_or, or_false, ite_true, ite_false]], ht⟩) (fun q h => by cases h) d_N_isThereTwice_66
      · exact absurd (nI_le (a := 24800) (b := i) (by omega) (by omega)) c13
    | succ n ih =>
      intro i x2 hi hr0 ls hl
      refine lv_iload_n hx hb d_N_isThereTwice_9 rfl (lv_at hl 0 rfl) ?_
      refine lv_sipush (v := 24800) hx hb d_N_isThereTwice_10 (by decide) ?_
      refine lv_icmp_ge (tgt := 65) hx hb d_N_isThereTwice_13 (by decide) (fun c13 => ?_) (fun c13 => ?_)
      · exact absurd c13 (nI_ge (a := i) (b := 24800) (by omega) (by omega))
      · refine lv_iload_n hx hb d_N_isThereTwice_16 rfl (lv_at hl 1 rfl) ?_
        refine lv_if_eq (tgt := 65) hx hb d_N_isThereTwice_17 (by decide) (fun c17 => ?_) (fun c17 => ?_)
        · refine lv_iconst (v := 0) hx hb d_N_isThereTwice_65 (by decide) ?_
          exact W.zret (ty := .boolean) (v := 0) hx hb hr rfl (fun t ht hW => ⟨by rw [show j_isThereTwice N x1 = 0 from by rw [hr0]; (first | (simp only [j_twiceL, c13, if_pos c17, Int32.not_le.mp c13, if_true, if_false, not_true_eq_false, not_false_eq_true, true_and, and_true, false_and, and_false, true_or, or_true, false_or, or_false, ite_true, ite_false]; done) | (simp only [j_twiceL, c13, c17, Int32.not_le.mp c13, if_true, if_false, not_true_eq_false, not_false_eq_true, true_and, and_true, false_and, and_false, true_or, or_true, false_or, or_false, ite_true, ite_false]; done) | (simp only [j_twiceL, c13, Int32.not_le.mp c13, if_true, if_false, not_true_eq_false, not_false_eq_true, true_and, and_true, false_and, and_false, true_or, or_true, false_or, or_false, ite_true, ite_false]; rw [if_pos c17]))], ht⟩) (fun q h => by cases h) d_N_isThereTwice_66
        · refine lv_aload_n hx hb d_N_isThereTwice_20 rfl (lv_at hl 2 rfl) ?_
          refine lv_iload_n hx hb d_N_isThereTwice_21 rfl (lv_at hl 1 rfl) ?_
          refine lv_iconst (v := 1) hx hb d_N_isThereTwice_22 (by decide) ?_
          refine nCallR (As := [.int x2, .int 1]) (rest := []) ⟨hx, hb, hml, hown, hts⟩ (c_N_get l dC dI cI a N x2 1) (cwV 2 hts (gV kml_N_46 kim_N_get ksl_N_get kin_N kcd_N_get) rfl rfl rfl (by decide +kernel) ⟨Nat.le_of_ble_eq_true rfl, Nat.le_of_ble_eq_true rfl⟩) hP hK rfl hl.1 rfl (Nat.le_of_ble_eq_true rfl) d_N_isThereTwice_23 ⟨Nat.zero_le _, Nat.zero_le _⟩ ?_
          refine lv_aload_n hx hb d_N_isThereTwice_26 rfl (lv_at hl 2 rfl) ?_
          refine lv_iload_n hx hb d_N_isThereTwice_27 rfl (lv_at hl 3 rfl) ?_
          refine lv_iconst (v := 1) hx hb d_N_isThereTwice_28 (by decide) ?_
          refine nCallR (As := [.int x1, .int 1]) (rest := [.int (j_get N x2 1)]) ⟨hx, hb, hml, hown, hts⟩ (c_N_get l dC dI cI a N x1 1) (cwV 2 hts (gV kml_N_46 kim_N_get ksl_N_get kin_N kcd_N_get) rfl rfl rfl (by decide +kernel) ⟨Nat.le_of_ble_eq_true rfl, Nat.le_of_ble_eq_true rfl⟩) hP hK rfl hl.1 rfl (Nat.le_of_ble_eq_true rfl) d_N_isThereTwice_29 ⟨Nat.zero_le _, Nat.zero_le _⟩ ?_
          refine lv_icmp_ne (tgt := 52) hx hb d_N_isThereTwice_32 (by decide) (fun c32 => ?_) (fun c32 => ?_)
          · refine lv_aload_n hx hb d_N_isThereTwice_52 rfl (lv_at hl 2 rfl) ?_
            refine lv_iload_n hx hb d_N_isThereTwice_53 rfl (lv_at hl 1 rfl) ?_
            refine lv_iconst (v := 3) hx hb d_N_isThereTwice_54 (by decide) ?_
            refine nCallR (As := [.int x2, .int 3]) (rest := []) ⟨hx, hb, hml, hown, hts⟩ (c_N_get l dC dI cI a N x2 3) (cwV 2 hts (gV kml_N_46 kim_N_get ksl_N_get kin_N kcd_N_get) rfl rfl rfl (by decide +kernel) ⟨Nat.le_of_ble_eq_true rfl, Nat.le_of_ble_eq_true rfl⟩) hP hK rfl hl.1 rfl (Nat.le_of_ble_eq_true rfl) d_N_isThereTwice_55 ⟨Nat.zero_le _, Nat.zero_le _⟩ ?_
            refine lv_istore_n (lv' := [(2, .int (j_get N x2 3)), (3, .int (nI i)), (0, .ref (a 0)), (1, .int x1)]) hx hb d_N_isThereTwice_58 rfl hl (by decide) rfl (fun ls hl => ?_)
            refine lv_iinc (v := ((nI i) + 1)) (lv' := [(3, .int ((nI i) + 1)), (2, .int (j_get N x2 3)), (0, .ref (a 0)), (1, .int x1)]) hx hb d_N_isThereTwice_59 hl (k := 1) rfl rfl (by decide) rfl (fun ls hl => ?_)
            refine lv_goto (tgt := 9) hx hb d_N_isThereTwice_62 (by decide) ?_
            rw [nI_1] at hl
            exact ih (i + 1) _ (by omega) (by rw [hr0]; simp only [j_twiceL, c13, c17, c32, Int32.not_le.mp c13, if_true, if_false, not_true_eq_false, not_false_eq_true, true_and, and_true, false_and, and_false, true_or, or_true, false_or, or_false, ite_true, ite_false]) ls (lv_sub hl [0, 1, 2, 3] rfl)
          · refine lv_aload_n hx hb d_N_isThereTwice_35 rfl (lv_at hl 2 rfl) ?_
            refine lv_iload_n hx hb d_N_isThereTwice_36 rfl (lv_at hl 1 rfl) ?_
            refine lv_iconst (v := 2) hx hb d_N_isThereTwice_37 (by decide) ?_
            refine nCallR (As := [.int x2, .int 2]) (rest := []) ⟨hx, hb, hml, hown, hts⟩ (c_N_get l dC dI cI a N x2 2) (cwV 2 hts (gV kml_N_46 kim_N_get ksl_N_get kin_N kcd_N_get) rfl rfl rfl (by decide +kernel) ⟨Nat.le_of_ble_eq_true rfl, Nat.le_of_ble_eq_true rfl⟩) hP hK rfl hl.1 rfl (Nat.le_of_ble_eq_true rfl) d_N_isThereTwice_38 ⟨Nat.zero_le _, Nat.zero_le _⟩ ?_
            refine lv_aload_n hx hb d_N_isThereTwice_41 rfl (lv_at hl 2 rfl) ?_
            refine lv_iload_n hx hb d_N_isThereTwice_42 rfl (lv_at hl 3 rfl) ?_
            refine lv_iconst (v := 2) hx hb d_N_isThereTwice_43 (by decide) ?_
            refine nCallR (As := [.int x1, .int 2]) (rest := [.int (j_get N x2 2)]) ⟨hx, hb, hml, hown, hts⟩ (c_N_get l dC dI cI a N x1 2) (cwV 2 hts (gV kml_N_46 kim_N_get ksl_N_get kin_N kcd_N_get) rfl rfl rfl (by decide +kernel) ⟨Nat.le_of_ble_eq_true rfl, Nat.le_of_ble_eq_true rfl⟩) hP hK rfl hl.1 rfl (Nat.le_of_ble_eq_true rfl) d_N_isThereTwice_44 ⟨Nat.zero_le _, Nat.zero_le _⟩ ?_
            refine lv_icmp_ne (tgt := 52) hx hb d_N_isThereTwice_47 (by decide) (fun c47 => ?_) (fun c47 => ?_)
            · refine lv_aload_n hx hb d_N_isThereTwice_52 rfl (lv_at hl 2 rfl) ?_
              refine lv_iload_n hx hb d_N_isThereTwice_53 rfl (lv_at hl 1 rfl) ?_
              refine lv_iconst (v := 3) hx hb d_N_isThereTwice_54 (by decide) ?_
              refine nCallR (As := [.int x2, .int 3]) (rest := []) ⟨hx, hb, hml, hown, hts⟩ (c_N_get l dC dI cI a N x2 3) (cwV 2 hts (gV kml_N_46 kim_N_get ksl_N_get kin_N kcd_N_get) rfl rfl rfl (by decide +kernel) ⟨Nat.le_of_ble_eq_true rfl, Nat.le_of_ble_eq_true rfl⟩) hP hK rfl hl.1 rfl (Nat.le_of_ble_eq_true rfl) d_N_isThereTwice_55 ⟨Nat.zero_le _, Nat.zero_le _⟩ ?_
              refine lv_istore_n (lv' := [(2, .int (j_get N x2 3)), (3, .int (nI i)), (0, .ref (a 0)), (1, .int x1)]) hx hb d_N_isThereTwice_58 rfl hl (by decide) rfl (fun ls hl => ?_)
              refine lv_iinc (v := ((nI i) + 1)) (lv' := [(3, .int ((nI i) + 1)), (2, .int (j_get N x2 3)), (0, .ref (a 0)), (1, .int x1)]) hx hb d_N_isThereTwice_59 hl (k := 1) rfl rfl (by decide) rfl (fun ls hl => ?_)
              refine lv_goto (tgt := 9) hx hb d_N_isThereTwice_62 (by decide) ?_
              rw [nI_1] at hl
              exact ih (i + 1) _ (by omega) (by rw [hr0]; (first | (simp only [j_twiceL, c13, c17, if_pos c32, c47, Int32.not_le.mp c13, if_true, if_false, not_true_eq_false, not_false_eq_true, true_and, and_true, false_and, and_false, true_or, or_true, false_or, or_false, ite_true, ite_false]; done) | (simp only [j_twiceL, c13, c17, c32, c47, Int32.not_le.mp c13, if_true, if_false, not_true_eq_false, not_false_eq_true, true_and, and_true, false_and, and_false, true_or, or_true, false_or, or_false, ite_true, ite_false]; done) | (simp only [j_twiceL, c13, c17, c47, Int32.not_le.mp c13, if_true, if_false, not_true_eq_false, not_false_eq_true, true_and, and_true, false_and, and_false, true_or, or_true, false_or, or_false, ite_true, ite_false]; rw [if_pos c32]))) ls (lv_sub hl [0, 1, 2, 3] rfl)
            · refine lv_iconst (v := 1) hx hb d_N_isThereTwice_50 (by decide) ?_
              exact W.zret (ty := .boolean) (v := 1) hx hb hr rfl (fun t ht hW => ⟨by rw [show j_isThereTwice N x1 = 1 from by rw [hr0]; (first | (simp only [j_twiceL, c13, c17, if_pos c32, if_pos c47, Int32.not_le.mp c13, if_true, if_false, not_true_eq_false, not_false_eq_true, true_and, and_true, false_and, and_false, true_or, or_true, false_or, or_false, ite_true, ite_false]; done) | (simp only [j_twiceL, c13, c17, c32, c47, Int32.not_le.mp c13, if_true, if_false, not_true_eq_false, not_false_eq_true, true_and, and_true, false_and, and_false, true_or, or_true, false_or, or_false, ite_true, ite_false]; done) | (simp only [j_twiceL, c13, c17, Int32.not_le.mp c13, if_true, if_false, not_true_eq_false, not_false_eq_true, true_and, and_true, false_and, and_false, true_or, or_true, false_or, or_false, ite_true, ite_false]; rw [if_pos c32, if_pos c47]))], ht⟩) (fun q h => by cases h) d_N_isThereTwice_51
  refine lv_aload_n hx hb d_N_isThereTwice_0 rfl (lv_at hl 0 rfl) ?_
  refine lv_iload_n hx hb d_N_isThereTwice_1 rfl (lv_at hl 1 rfl) ?_
  refine lv_iconst (v := 3) hx hb d_N_isThereTwice_2 (by decide) ?_
  refine nCallR (As := [.int x1, .int 3]) (rest := []) ⟨hx, hb, hml, hown, hts⟩ (c_N_get l dC dI cI a N x1 3) (cwV 2 hts (gV kml_N_46 kim_N_get ksl_N_get kin_N kcd_N_get) rfl rfl rfl (by decide +kernel) ⟨Nat.le_of_ble_eq_true rfl, Nat.le_of_ble_eq_true rfl⟩) hP hK rfl hl.1 rfl (Nat.le_of_ble_eq_true rfl) d_N_isThereTwice_3 ⟨Nat.zero_le _, Nat.zero_le _⟩ ?_
  refine lv_istore_n (lv' := [(2, .int (j_get N x1 3)), (0, .ref (a 0)), (1, .int x1)]) hx hb d_N_isThereTwice_6 rfl hl (by decide) rfl (fun ls hl => ?_)
  refine lv_iconst (v := 0) hx hb d_N_isThereTwice_7 (by decide) ?_
  refine lv_istore_n (lv' := [(3, .int 0), (2, .int (j_get N x1 3)), (0, .ref (a 0)), (1, .int x1)]) hx hb d_N_isThereTwice_8 rfl hl (by decide) rfl (fun ls hl => ?_)
  exact loop 24800 0 _ rfl (by unfold j_isThereTwice; rfl) ls hl

set_option maxHeartbeats 4000000 in
set_option maxRecDepth 100000 in
/-- N_unlink -/
theorem c_N_unlink (l : Launch) (dC : Nat → ClassId) (dI : Nat → Nat → Nat) (cI : ClassId) (a : Nat → Nat) (N : Mm) (sz : Nat) (x1 : Int32) : Met l y_N_unlink (.code y_N_unlink b_N_unlink 6 none :: W0) ({ frames := 1, cells := 0, slots := 0, locals := 24 } : Room) (va_Pc [.ref (a 0), .int x1] (nM dC dI cI a N sz)) (va_Qv (fun _ : Unit => True) (fun _ t => nE dC dI cI a (j_unlink N x1) (va_A (nW cI a N) sz) t) (va_A (nW cI a N) sz)) 0 0 (va_A (nW cI a N) sz) := by
  refine Met.ofW (cc := b_N_unlink) (maxL := 6) (ret := none) (by decide) rfl ?_
  intro p e s m args below meth c s₁ B hml hv
  obtain ⟨rfl, hsz, hP, hK, hD0⟩ := hv
  have hx := B.exec
  have hb := B.bytes
  have hr := B.returns
  have hts1 := atoms_spec (ws := .code y_N_unlink b_N_unlink 6 none :: W0) B.pre
  have hts : ∀ w ∈ W0, w.before _ s = true := fun w h => hts1 w (List.mem_cons_of_mem _ h)
  have hown : s.vm.findClass R_N = some m.cls := findClass_of_methodNamed B.named
  have hlocks := B.notSynchronized
  subst hsz
  have hD := hD0.self (sz := s.heap.size)
  generalize hAe : va_A (nW cI a N) s.heap.size = A at hD ⊢
  have hA : ∀ q : Nat, s.heap.size ≤ q → A q := fun q h => by rw [← hAe]; exact Or.inr h
  have hS : va_S A s.heap s.heap [] := va_S.rf
  have hP : va_P (dC, dI) cls0 (nW cI a N) s.heap := hP
  have hl := lv_entry ([.ref (a 0), .int x1]) (n := 6) (Nat.le_of_ble_eq_true rfl)
  rw [lg_entry_eq]
  generalize (lg_sl ([.ref (a 0), .int x1]) ++ List.replicate (6 - (lg_sl ([.ref (a 0), .int x1])).length) Slot.unset).toArray = ls at hl ⊢
  have hl : lv_has ls 6 [(0, .ref (a 0)), (1, .int x1)] := hl
  have loop : ∀ (n : Nat) (N1 : Mm) (i : Nat) (x4 : Int32) (H : Heap) (locs : List Loc), i + n = 24800 → j_unlink N x1 = j_unlinkL N1 x1 n x4 → va_P (dC, dI) cls0 (nW cI a N1) H → va_D A (nW cI a N1) → va_S A s.heap H locs → ∀ (ls : Array Slot), lv_has ls 6 [(5, .int (nI i)), (4, .int x4), (0, .ref (a 0)), (1, .int x1)] → W p l e (headSpec (.code y_N_unlink b_N_unlink 6 none :: W0) ({ frames := 1, cells := 0, slots := 0, locals := 24 } : Room)).room s m ([.ref (a 0), .int x1] : List Value).toArray below meth c H locs 0 0 (MQ below (va_Qv (fun _ : Unit => True) (fun _ t => nE dC dI cI a (j_unlink N x1) A t) A) ([.ref (a 0), .int x1] : List Value).toArray s 0 0 A) (F0 m 95 ls []) := by
    intro n
    induction n with
    | zero =>
      intro N1 i x4 H locs hi hr0 hP hD hS ls hl
      refine lv_iload hx hb d_N_unlink_95 (lv_at hl 0 rfl) ?_
      refine lv_sipush (v := 24800) hx hb d_N_unlink_97 (by decide) ?_
      refine lv_icmp_ge (tgt := 148) hx hb d_N_unlink_100 (by decide) (fun c100 => ?_) (fun c100 => ?_)
      · have hP9 : va_P (dC, dI) cls0 (nW cI a (j_unlink N x1)) _ := (show N1 = j_unlink N x1 from by rw [hr0]; simp only [j_unlinkL, c100, Int32.not_lt.mpr c100, if_true, if_false, not_true_eq_false, not_false_eq_true, true_and, and_true, false_and, and_false, true_or, or_true, false_or, or_false, ite_true, ite_false]) ▸ hP
        have hD9 : va_D A (nW cI a (j_unlink N x1)) := (show N1 = j_unlink N x1 from by rw [hr0]; simp only [j_unlinkL, c100, Int32.not_lt.mpr c100, if_true, if_false, not_true_eq_false, not_false_eq_true, true_and, and_true, false_and, and_false, true_or, or_true, false_or, or_false, ite_true, ite_false]) ▸ hD
        exact W.vret hx hb hr (fun t ht hW => ⟨⟨(), rfl, trivial, by rw [ht]; exact hP9, va_K.moved hW.alike hK, hD9⟩, hS.F ht⟩) hS.2.2 d_N_unlink_148
      · exact absurd (nI_le (a := 24800) (b := i) (by omega) (by omega)) c100
    | succ n ih =>
      intro N1 i x4 H locs hi hr0 hP hD hS ls hl
      refine lv_iload hx hb d_N_unlink_95 (lv_at hl 0 rfl) ?_
      refine lv_sipush (v := 24800) hx hb d_N_unlink_97 (by decide) ?_
      refine lv_icmp_ge (tgt := 148) hx hb d_N_unlink_100 (by decide) (fun c100 => ?_) (fun c100 => ?_)
      · exact absurd c100 (nI_ge (a := i) (b := 24800) (by omega) (by omega))
      · refine lv_iload hx hb d_N_unlink_103 (lv_at hl 1 rfl) ?_
        refine lv_if_eq (tgt := 148) hx hb d_N_unlink_105 (by decide) (fun c105 => ?_) (fun c105 => ?_)
        · have hP9 : va_P (dC, dI) cls0 (nW cI a (j_unlink N x1)) _ := (show N1 = j_unlink N x1 from by rw [hr0]; (first | (simp only [j_unlinkL, c100, if_pos c105, Int32.not_le.mp c100, if_true, if_false, not_true_eq_false, not_false_eq_true, true_and, and_true, false_and, and_false, true_or, or_true, false_or, or_false, ite_true, ite_false]; done) | (simp only [j_unlinkL, c100, c105, Int32.not_le.mp c100, if_true, if_false, not_true_eq_false, not_false_eq_true, true_and, and_true, false_and, and_false, true_or, or_true, false_or, or_false, ite_true, ite_false]; done) | (simp only [j_unlinkL, c100, Int32.not_le.mp c100, if_true, if_false, not_true_eq_false, not_false_eq_true, true_and, and_true, false_and, and_false, true_or, or_true, false_or, or_false, ite_true, ite_false]; rw [if_pos c105]))) ▸ hP
          have hD9 : va_D A (nW cI a (j_unlink N x1)) := (show N1 = j_unlink N x1 from by rw [hr0]; (first | (simp only [j_unlinkL, c100, if_pos c105, Int32.not_le.mp c100, if_true, if_false, not_true_eq_false, not_false_eq_true, true_and, and_true, false_and, and_false, true_or, or_true, false_or, or_false, ite_true, ite_false]; done) | (simp only [j_unlinkL, c100, c105, Int32.not_le.mp c100, if_true, if_false, not_true_eq_false, not_false_eq_true, true_and, and_true, false_and, and_false, true_or, or_true, false_or, or_false, ite_true, ite_false]; done) | (simp only [j_unlinkL, c100, Int32.not_le.mp c100, if_true, if_false, not_true_eq_false, not_false_eq_true, true_and, and_true, false_and, and_false, true_or, or_true, false_or, or_false, ite_true, ite_false]; rw [if_pos c105]))) ▸ hD
          exact W.vret hx hb hr (fun t ht hW => ⟨⟨(), rfl, trivial, by rw [ht]; exact hP9, va_K.moved hW.alike hK, hD9⟩, hS.F ht⟩) hS.2.2 d_N_unlink_148
        · refine lv_aload_n hx hb d_N_unlink_108 rfl (lv_at hl 2 rfl) ?_
          refine lv_iload hx hb d_N_unlink_109 (lv_at hl 1 rfl) ?_
          refine lv_iconst (v := 3) hx hb d_N_unlink_111 (by decide) ?_
          refine nCallR (As := [.int x4, .int 3]) (rest := []) ⟨hx, hb, hml, hown, hts⟩ (c_N_get l dC dI cI a N1 x4 3) (cwV 2 hts (gV kml_N_46 kim_N_get ksl_N_get kin_N kcd_N_get) rfl rfl rfl (by decide +kernel) ⟨Nat.le_of_ble_eq_true rfl, Nat.le_of_ble_eq_true rfl⟩) hP hK rfl hl.1 rfl (Nat.le_of_ble_eq_true rfl) d_N_unlink_112 ⟨Nat.zero_le _, Nat.zero_le _⟩ ?_
          refine lv_iload_n hx hb d_N_unlink_115 rfl (lv_at hl 3 rfl) ?_
          refine lv_icmp_ne (tgt := 133) hx hb d_N_unlink_116 (by decide) (fun c116 => ?_) (fun c116 => ?_)
          · refine lv_aload_n hx hb d_N_unlink_133 rfl (lv_at hl 2 rfl) ?_
            refine lv_iload hx hb d_N_unlink_134 (lv_at hl 1 rfl) ?_
            refine lv_iconst (v := 3) hx hb d_N_unlink_136 (by decide) ?_
            refine nCallR (As := [.int x4, .int 3]) (rest := []) ⟨hx, hb, hml, hown, hts⟩ (c_N_get l dC dI cI a N1 x4 3) (cwV 2 hts (gV kml_N_46 kim_N_get ksl_N_get kin_N kcd_N_get) rfl rfl rfl (by decide +kernel) ⟨Nat.le_of_ble_eq_true rfl, Nat.le_of_ble_eq_true rfl⟩) hP hK rfl hl.1 rfl (Nat.le_of_ble_eq_true rfl) d_N_unlink_137 ⟨Nat.zero_le _, Nat.zero_le _⟩ ?_
            refine lv_istore (lv' := [(4, .int (j_get N1 x4 3)), (5, .int (nI i)), (0, .ref (a 0)), (1, .int x1)]) hx hb d_N_unlink_140 hl (by decide) rfl (fun ls hl => ?_)
            refine lv_iinc (v := ((nI i) + 1)) (lv' := [(5, .int ((nI i) + 1)), (4, .int (j_get N1 x4 3)), (0, .ref (a 0)), (1, .int x1)]) hx hb d_N_unlink_142 hl (k := 1) rfl rfl (by decide) rfl (fun ls hl => ?_)
            refine lv_goto (tgt := 95) hx hb d_N_unlink_145 (by decide) ?_
            rw [nI_1] at hl
            exact ih N1 (i + 1) _ H locs (by omega) (by rw [hr0]; simp only [j_unlinkL, c100, c105, c116, Int32.not_le.mp c100, if_true, if_false, not_true_eq_false, not_false_eq_true, true_and, and_true, false_and, and_false, true_or, or_true, false_or, or_false, ite_true, ite_false]) hP hD hS ls (lv_sub hl [0, 1, 2, 3] rfl)
          · refine lv_aload_n hx hb d_N_unlink_119 rfl (lv_at hl 2 rfl) ?_
            refine lv_iload hx hb d_N_unlink_120 (lv_at hl 1 rfl) ?_
            refine lv_iconst (v := 3) hx hb d_N_unlink_122 (by decide) ?_
            refine lv_aload_n hx hb d_N_unlink_123 rfl (lv_at hl 2 rfl) ?_
            refine lv_iload_n hx hb d_N_unlink_124 rfl (lv_at hl 3 rfl) ?_
            refine lv_iconst (v := 3) hx hb d_N_unlink_125 (by decide) ?_
            refine nCallR (As := [.int x1, .int 3]) (rest := [.int 3, .int x4, .ref (a 0)]) ⟨hx, hb, hml, hown, hts⟩ (c_N_get l dC dI cI a N1 x1 3) (cwV 2 hts (gV kml_N_46 kim_N_get ksl_N_get kin_N kcd_N_get) rfl rfl rfl (by decide +kernel) ⟨Nat.le_of_ble_eq_true rfl, Nat.le_of_ble_eq_true rfl⟩) hP hK rfl hl.1 rfl (Nat.le_of_ble_eq_true rfl) d_N_unlink_126 ⟨Nat.zero_le _, Nat.zero_le _⟩ ?_
            refine nCallv (As := [.int x4, .int 3, .int (j_get N1 x1 3)]) (rest := []) ⟨hx, hb, hml, hown, hts⟩ (c_N_set l dC dI cI a N1 _ x4 3 (j_get N1 x1 3)) (cwV 3 hts (gV kml_N_65 kim_N_set ksl_N_set kin_N kcd_N_set) rfl rfl rfl (by decide +kernel) ⟨Nat.le_of_ble_eq_true rfl, Nat.le_of_ble_eq_true rfl⟩) hP hK hD hS hA rfl hl.1 rfl (Nat.le_of_ble_eq_true rfl) d_N_unlink_129 ⟨Nat.zero_le _, Nat.zero_le _⟩ (fun H locs hP hD hS => ?_)
            have hP9 : va_P (dC, dI) cls0 (nW cI a (j_unlink N x1)) _ := (show j_set N1 x4 3 (j_get N1 x1 3) = j_unlink N x1 from by rw [hr0]; (first | (simp only [j_unlinkL, c100, c105, if_pos c116, Int32.not_le.mp c100, if_true, if_false, not_true_eq_false, not_false_eq_true, true_and, and_true, false_and, and_false, true_or, or_true, false_or, or_false, ite_true, ite_false]; done) | (simp only [j_unlinkL, c100, c105, c116, Int32.not_le.mp c100, if_true, if_false, not_true_eq_false, not_false_eq_true, true_and, and_true, false_and, and_false, true_or, or_true, false_or, or_false, ite_true, ite_false]; done) | (simp only [j_unlinkL, c100, c105, Int32.not_le.mp c100, if_true, if_false, not_true_eq_false, not_false_eq_true, true_and, and_true, false_and, and_false, true_or, or_true, false_or, or_false, ite_true, ite_false]; rw [if_pos c116]))) ▸ hP
            have hD9 : va_D A (nW cI a (j_unlink N x1)) := (show j_set N1 x4 3 (j_get N1 x1 3) = j_unlink N x1 from by rw [hr0]; (first | (simp only [j_unlinkL, c100, c105, if_pos c116, Int32.not_le.mp c100, if_true, if_false, not_true_eq_false, not_false_eq_true, true_and, and_true, false_and, and_false, true_or, or_true, false_or, or_false, ite_true, ite_false]; done) | (simp only [j_unlinkL, c100, c105, c116, Int32.not_le.mp c100, if_true, if_false, not_true_eq_false, not_false_eq_true, true_and, and_true, false_and, and_false, true_or, or_true, false_or, or_false, ite_true, ite_false]; done) | (simp only [j_unlinkL, c100, c105, Int32.not_le.mp c100, if_true, if_false, not_true_eq_false, not_false_eq_true, true_and, and_true, false_and, and_false, true_or, or_true, false_or, or_false, ite_true, ite_false]; rw [if_pos c116]))) ▸ hD
            exact W.vret hx hb hr (fun t ht hW => ⟨⟨(), rfl, trivial, by rw [ht]; exact hP9, va_K.moved hW.alike hK, hD9⟩, hS.F ht⟩) hS.2.2 d_N_unlink_132
  refine lv_aload_n hx hb d_N_unlink_0 rfl (lv_at hl 0 rfl) ?_
  refine lv_iload_n hx hb d_N_unlink_1 rfl (lv_at hl 1 rfl) ?_
  refine lv_iconst (v := 0) hx hb d_N_unlink_2 (by decide) ?_
  refine nCallR (As := [.int x1, .int 0]) (rest := []) ⟨hx, hb, hml, hown, hts⟩ (c_N_get l dC dI cI a N x1 0) (cwV 2 hts (gV kml_N_46 kim_N_get ksl_N_get kin_N kcd_N_get) rfl rfl rfl (by decide +kernel) ⟨Nat.le_of_ble_eq_true rfl, Nat.le_of_ble_eq_true rfl⟩) hP hK rfl hl.1 rfl (Nat.le_of_ble_eq_true rfl) d_N_unlink_3 ⟨Nat.zero_le _, Nat.zero_le _⟩ ?_
  refine lv_istore_n (lv' := [(2, .int (j_get N x1 0)), (0, .ref (a 0)), (1, .int x1)]) hx hb d_N_unlink_6 rfl hl (by decide) rfl (fun ls hl => ?_)
  refine lv_iload_n hx hb d_N_unlink_7 rfl (lv_at hl 0 rfl) ?_
  refine lv_aload_n hx hb d_N_unlink_8 rfl (lv_at hl 1 rfl) ?_
  refine lv_iload_n hx hb d_N_unlink_9 rfl (lv_at hl 2 rfl) ?_
  refine lv_iconst (v := 1) hx hb d_N_unlink_10 (by decide) ?_
  refine nCallR (As := [.int x1, .int 1]) (rest := [.int (j_get N x1 0)]) ⟨hx, hb, hml, hown, hts⟩ (c_N_get l dC dI cI a N x1 1) (cwV 2 hts (gV kml_N_46 kim_N_get ksl_N_get kin_N kcd_N_get) rfl rfl rfl (by decide +kernel) ⟨Nat.le_of_ble_eq_true rfl, Nat.le_of_ble_eq_true rfl⟩) hP hK rfl hl.1 rfl (Nat.le_of_ble_eq_true rfl) d_N_unlink_11 ⟨Nat.zero_le _, Nat.zero_le _⟩ ?_
  refine lv_aload_n hx hb d_N_unlink_14 rfl (lv_at hl 1 rfl) ?_
  refine lv_iload_n hx hb d_N_unlink_15 rfl (lv_at hl 2 rfl) ?_
  refine lv_iconst (v := 2) hx hb d_N_unlink_16 (by decide) ?_
  refine nCallR (As := [.int x1, .int 2]) (rest := [.int (j_get N x1 1), .int (j_get N x1 0)]) ⟨hx, hb, hml, hown, hts⟩ (c_N_get l dC dI cI a N x1 2) (cwV 2 hts (gV kml_N_46 kim_N_get ksl_N_get kin_N kcd_N_get) rfl rfl rfl (by decide +kernel) ⟨Nat.le_of_ble_eq_true rfl, Nat.le_of_ble_eq_true rfl⟩) hP hK rfl hl.1 rfl (Nat.le_of_ble_eq_true rfl) d_N_unlink_17 ⟨Nat.zero_le _, Nat.zero_le _⟩ ?_
  refine nCallS (As := [.int (j_get N x1 0), .int (j_get N x1 1), .int (j_get N x1 2)]) (rest := []) ⟨hx, hb, hml, hown, hts⟩ (c_N_chainFor l (j_get N x1 0) (j_get N x1 1) (j_get N x1 2)) (va_cwS 3 hts (gS kml_N_69 kst_N_chainFor kin_N kcd_N_chainFor) rfl rfl rfl (by decide +kernel) ⟨Nat.le_of_ble_eq_true rfl, Nat.le_of_ble_eq_true rfl⟩) rfl hl.1 rfl (Nat.le_of_ble_eq_true rfl) d_N_unlink_20 ⟨Nat.zero_le _, Nat.zero_le _⟩ ?_
  refine lv_istore_n (lv' := [(3, .int (j_chainFor (j_get N x1 0) (j_get N x1 1) (j_get N x1 2))), (2, .int (j_get N x1 0)), (0, .ref (a 0)), (1, .int x1)]) hx hb d_N_unlink_23 rfl hl (by decide) rfl (fun ls hl => ?_)
  refine lv_iload_n hx hb d_N_unlink_24 rfl (lv_at hl 1 rfl) ?_
  refine lv_if_lt (tgt := 50) hx hb d_N_unlink_25 (by decide) (fun c25 => ?_) (fun c25 => ?_)
  · have hP9 : va_P (dC, dI) cls0 (nW cI a (j_unlink N x1)) _ := (show N = j_unlink N x1 from by (first | (simp only [j_unlink, j_unlink2, c25, Int32.not_le.mpr c25, if_true, if_false, not_true_eq_false, not_false_eq_true, true_and, and_true, false_and, and_false, true_or, or_true, false_or, or_false, ite_true, ite_false]; done) | (simp only [j_unlink, j_unlink2, c25, Int32.not_le.mpr c25, if_true, if_false, not_true_eq_false, not_false_eq_true, true_and, and_true, false_and, and_false, true_or, or_true, false_or, or_false, ite_true, ite_false]; simp only [uq_0_1, uq_0_2, uq_0_3, uq_0_4, uq_0_5, uq_1_0, uq_1_2, uq_1_3, uq_1_4, uq_1_5, uq_2_0, uq_2_1, uq_2_3, uq_2_4, uq_2_5, uq_3_0, uq_3_1, uq_3_2, uq_3_4, uq_3_5, uq_4_0, uq_4_1, uq_4_2, uq_4_3, uq_4_5, uq_5_0, uq_5_1, uq_5_2, uq_5_3, uq_5_4, uf_0_0, uf_0_1, uf_0_2, uf_0_3, uf_0_4, uf_0_5, uf_1_0, uf_1_1, uf_1_2, uf_1_3, uf_1_4, uf_1_5, uf_2_0, uf_2_1, uf_2_2, uf_2_3, uf_2_4, uf_2_5, uf_3_0, uf_3_1, uf_3_2, uf_3_3, uf_3_4, uf_3_5, uf_4_0, uf_4_1, uf_4_2, uf_4_3, uf_4_4, uf_4_5, uf_5_0, uf_5_1, uf_5_2, uf_5_3, uf_5_4, uf_5_5, js_0, js_2, js_3, js_4, js_5]; done) | (simp only [j_unlink, j_unlink2, uq_0_1, uq_0_2, uq_0_3, uq_0_4, uq_0_5, uq_1_0, uq_1_2, uq_1_3, uq_1_4, uq_1_5, uq_2_0, uq_2_1, uq_2_3, uq_2_4, uq_2_5, uq_3_0, uq_3_1, uq_3_2, uq_3_4, uq_3_5, uq_4_0, uq_4_1, uq_4_2, uq_4_3, uq_4_5, uq_5_0, uq_5_1, uq_5_2, uq_5_3, uq_5_4, uf_0_0, uf_0_1, uf_0_2, uf_0_3, uf_0_4, uf_0_5, uf_1_0, uf_1_1, uf_1_2, uf_1_3, uf_1_4, uf_1_5, uf_2_0, uf_2_1, uf_2_2, uf_2_3, uf_2_4, uf_2_5, uf_3_0, uf_3_1, uf_3_2, uf_3_3, uf_3_4, uf_3_5, uf_4_0, uf_4_1, uf_4_2, uf_4_3, uf_4_4, uf_4_5, uf_5_0, uf_5_1, uf_5_2, uf_5_3, uf_5_4, uf_5_5, js_0, js_2, js_3, js_4, js_5, c25, Int32.not_le.mpr c25, if_true, if_false, not_true_eq_false, not_false_eq_true, true_and, and_true, false_and, and_false, true_or, or_true, false_or, or_false, ite_true, ite_false]; done))) ▸ hP
    have hD9 : va_D A (nW cI a (j_unlink N x1)) := (show N = j_unlink N x1 from by (first | (simp only [j_unlink, j_unlink2, c25, Int32.not_le.mpr c25, if_true, if_false, not_true_eq_false, not_false_eq_true, true_and, and_true, false_and, and_false, true_or, or_true, false_or, or_false, ite_true, ite_false]; done) | (simp only [j_unlink, j_unlink2, c25, Int32.not_le.mpr c25, if_true, if_false, not_true_eq_false, not_false_eq_true, true_and, and_true, false_and, and_false, true_or, or_true, false_or, or_false, ite_true, ite_false]; simp only [uq_0_1, uq_0_2, uq_0_3, uq_0_4, uq_0_5, uq_1_0, uq_1_2, uq_1_3, uq_1_4, uq_1_5, uq_2_0, uq_2_1, uq_2_3, uq_2_4, uq_2_5, uq_3_0, uq_3_1, uq_3_2, uq_3_4, uq_3_5, uq_4_0, uq_4_1, uq_4_2, uq_4_3, uq_4_5, uq_5_0, uq_5_1, uq_5_2, uq_5_3, uq_5_4, uf_0_0, uf_0_1, uf_0_2, uf_0_3, uf_0_4, uf_0_5, uf_1_0, uf_1_1, uf_1_2, uf_1_3, uf_1_4, uf_1_5, uf_2_0, uf_2_1, uf_2_2, uf_2_3, uf_2_4, uf_2_5, uf_3_0, uf_3_1, uf_3_2, uf_3_3, uf_3_4, uf_3_5, uf_4_0, uf_4_1, uf_4_2, uf_4_3, uf_4_4, uf_4_5, uf_5_0, uf_5_1, uf_5_2, uf_5_3, uf_5_4, uf_5_5, js_0, js_2, js_3, js_4, js_5]; done) | (simp only [j_unlink, j_unlink2, uq_0_1, uq_0_2, uq_0_3, uq_0_4, uq_0_5, uq_1_0, uq_1_2, uq_1_3, uq_1_4, uq_1_5, uq_2_0, uq_2_1, uq_2_3, uq_2_4, uq_2_5, uq_3_0, uq_3_1, uq_3_2, uq_3_4, uq_3_5, uq_4_0, uq_4_1, uq_4_2, uq_4_3, uq_4_5, uq_5_0, uq_5_1, uq_5_2, uq_5_3, uq_5_4, uf_0_0, uf_0_1, uf_0_2, uf_0_3, uf_0_4, uf_0_5, uf_1_0, uf_1_1, uf_1_2, uf_1_3, uf_1_4, uf_1_5, uf_2_0, uf_2_1, uf_2_2, uf_2_3, uf_2_4, uf_2_5, uf_3_0, uf_3_1, uf_3_2, uf_3_3, uf_3_4, uf_3_5, uf_4_0, uf_4_1, uf_4_2, uf_4_3, uf_4_4, uf_4_5, uf_5_0, uf_5_1, uf_5_2, uf_5_3, uf_5_4, uf_5_5, js_0, js_2, js_3, js_4, js_5, c25, Int32.not_le.mpr c25, if_true, if_false, not_true_eq_false, not_false_eq_true, true_and, and_true, false_and, and_false, true_or, or_true, false_or, or_false, ite_true, ite_false]; done))) ▸ hD
    exact W.vret hx hb hr (fun t ht hW => ⟨⟨(), rfl, trivial, by rw [ht]; exact hP9, va_K.moved hW.alike hK, hD9⟩, hS.F ht⟩) hS.2.2 d_N_unlink_50
  · refine lv_iload_n hx hb d_N_unlink_28 rfl (lv_at hl 1 rfl) ?_
    refine lv_aload_n hx hb d_N_unlink_29 rfl (lv_at hl 2 rfl) ?_
    refine va_get (D := (dC, dI)) (ci := 1) (v := .ref (a 3)) (C := R_N) (T := T_N) (N := 11) hx hb hts in_N hown hK hP 0 rfl rfl 2 (by decide) (hts _ kfl_N_28) (fun _ h9 => h9) rfl d_N_unlink_30 ?_
    refine va_alen (v := nI 12) hx hb hK hP 3 0 rfl rfl rfl d_N_unlink_33 ?_
    refine lv_icmp_ge (tgt := 50) hx hb d_N_unlink_34 (by decide) (fun c34 => ?_) (fun c34 => ?_)
    · have hP9 : va_P (dC, dI) cls0 (nW cI a (j_unlink N x1)) _ := (show N = j_unlink N x1 from by (first | (simp only [j_unlink, j_unlink2, c25, c34, Int32.not_lt.mp c25, Int32.not_lt.mpr c34, if_true, if_false, not_true_eq_false, not_false_eq_true, true_and, and_true, false_and, and_false, true_or, or_true, false_or, or_false, ite_true, ite_false]; done) | (simp only [j_unlink, j_unlink2, c25, c34, Int32.not_lt.mp c25, Int32.not_lt.mpr c34, if_true, if_false, not_true_eq_false, not_false_eq_true, true_and, and_true, false_and, and_false, true_or, or_true, false_or, or_false, ite_true, ite_false]; simp only [uq_0_1, uq_0_2, uq_0_3, uq_0_4, uq_0_5, uq_1_0, uq_1_2, uq_1_3, uq_1_4, uq_1_5, uq_2_0, uq_2_1, uq_2_3, uq_2_4, uq_2_5, uq_3_0, uq_3_1, uq_3_2, uq_3_4, uq_3_5, uq_4_0, uq_4_1, uq_4_2, uq_4_3, uq_4_5, uq_5_0, uq_5_1, uq_5_2, uq_5_3, uq_5_4, uf_0_0, uf_0_1, uf_0_2, uf_0_3, uf_0_4, uf_0_5, uf_1_0, uf_1_1, uf_1_2, uf_1_3, uf_1_4, uf_1_5, uf_2_0, uf_2_1, uf_2_2, uf_2_3, uf_2_4, uf_2_5, uf_3_0, uf_3_1, uf_3_2, uf_3_3, uf_3_4, uf_3_5, uf_4_0, uf_4_1, uf_4_2, uf_4_3, uf_4_4, uf_4_5, uf_5_0, uf_5_1, uf_5_2, uf_5_3, uf_5_4, uf_5_5, js_0, js_2, js_3, js_4, js_5]; done) | (simp only [j_unlink, j_unlink2, uq_0_1, uq_0_2, uq_0_3, uq_0_4, uq_0_5, uq_1_0, uq_1_2, uq_1_3, uq_1_4, uq_1_5, uq_2_0, uq_2_1, uq_2_3, uq_2_4, uq_2_5, uq_3_0, uq_3_1, uq_3_2, uq_3_4, uq_3_5, uq_4_0, uq_4_1, uq_4_2, uq_4_3, uq_4_5, uq_5_0, uq_5_1, uq_5_2, uq_5_3, uq_5_4, uf_0_0, uf_0_1, uf_0_2, uf_0_3, uf_0_4, uf_0_5, uf_1_0, uf_1_1, uf_1_2, uf_1_3, uf_1_4, uf_1_5, uf_2_0, uf_2_1, uf_2_2, uf_2_3, uf_2_4, uf_2_5, uf_3_0, uf_3_1, uf_3_2, uf_3_3, uf_3_4, uf_3_5, uf_4_0, uf_4_1, uf_4_2, uf_4_3, uf_4_4, uf_4_5, uf_5_0, uf_5_1, uf_5_2, uf_5_3, uf_5_4, uf_5_5, js_0, js_2, js_3, js_4, js_5, c25, c34, Int32.not_lt.mp c25, Int32.not_lt.mpr c34, if_true, if_false, not_true_eq_false, not_false_eq_true, true_and, and_true, false_and, and_false, true_or, or_true, false_or, or_false, ite_true, ite_false]; done))) ▸ hP
      have hD9 : va_D A (nW cI a (j_unlink N x1)) := (show N = j_unlink N x1 from by (first | (simp only [j_unlink, j_unlink2, c25, c34, Int32.not_lt.mp c25, Int32.not_lt.mpr c34, if_true, if_false, not_true_eq_false, not_false_eq_true, true_and, and_true, false_and, and_false, true_or, or_true, false_or, or_false, ite_true, ite_false]; done) | (simp only [j_unlink, j_unlink2, c25, c34, Int32.not_lt.mp c25, Int32.not_lt.mpr c34, if_true, if_false, not_true_eq_false, not_false_eq_true, true_and, and_true, false_and, and_false, true_or, or_true, false_or, or_false, ite_true, ite_false]; simp only [uq_0_1, uq_0_2, uq_0_3, uq_0_4, uq_0_5, uq_1_0, uq_1_2, uq_1_3, uq_1_4, uq_1_5, uq_2_0, uq_2_1, uq_2_3, uq_2_4, uq_2_5, uq_3_0, uq_3_1, uq_3_2, uq_3_4, uq_3_5, uq_4_0, uq_4_1, uq_4_2, uq_4_3, uq_4_5, uq_5_0, uq_5_1, uq_5_2, uq_5_3, uq_5_4, uf_0_0, uf_0_1, uf_0_2, uf_0_3, uf_0_4, uf_0_5, uf_1_0, uf_1_1, uf_1_2, uf_1_3, uf_1_4, uf_1_5, uf_2_0, uf_2_1, uf_2_2, uf_2_3, uf_2_4, uf_2_5, uf_3_0, uf_3_1, uf_3_2, uf_3_3, uf_3_4, uf_3_5, uf_4_0, uf_4_1, uf_4_2, uf_4_3, uf_4_4, uf_4_5, uf_5_0, uf_5_1, uf_5_2, uf_5_3, uf_5_4, uf_5_5, js_0, js_2, js_3, js_4, js_5]; done) | (simp only [j_unlink, j_unlink2, uq_0_1, uq_0_2, uq_0_3, uq_0_4, uq_0_5, uq_1_0, uq_1_2, uq_1_3, uq_1_4, uq_1_5, uq_2_0, uq_2_1, uq_2_3, uq_2_4, uq_2_5, uq_3_0, uq_3_1, uq_3_2, uq_3_4, uq_3_5, uq_4_0, uq_4_1, uq_4_2, uq_4_3, uq_4_5, uq_5_0, uq_5_1, uq_5_2, uq_5_3, uq_5_4, uf_0_0, uf_0_1, uf_0_2, uf_0_3, uf_0_4, uf_0_5, uf_1_0, uf_1_1, uf_1_2, uf_1_3, uf_1_4, uf_1_5, uf_2_0, uf_2_1, uf_2_2, uf_2_3, uf_2_4, uf_2_5, uf_3_0, uf_3_1, uf_3_2, uf_3_3, uf_3_4, uf_3_5, uf_4_0, uf_4_1, uf_4_2, uf_4_3, uf_4_4, uf_4_5, uf_5_0, uf_5_1, uf_5_2, uf_5_3, uf_5_4, uf_5_5, js_0, js_2, js_3, js_4, js_5, c25, c34, Int32.not_lt.mp c25, Int32.not_lt.mpr c34, if_true, if_false, not_true_eq_false, not_false_eq_true, true_and, and_true, false_and, and_false, true_or, or_true, false_or, or_false, ite_true, ite_false]; done))) ▸ hD
      exact W.vret hx hb hr (fun t ht hW => ⟨⟨(), rfl, trivial, by rw [ht]; exact hP9, va_K.moved hW.alike hK, hD9⟩, hS.F ht⟩) hS.2.2 d_N_unlink_50
    · refine lv_iload_n hx hb d_N_unlink_37 rfl (lv_at hl 0 rfl) ?_
      refine lv_if_lt (tgt := 50) hx hb d_N_unlink_38 (by decide) (fun c38 => ?_) (fun c38 => ?_)
      · have hP9 : va_P (dC, dI) cls0 (nW cI a (j_unlink N x1)) _ := (show N = j_unlink N x1 from by (first | (simp only [j_unlink, j_unlink2, c25, c34, c38, Int32.not_lt.mp c25, Int32.not_le.mp c34, Int32.not_le.mpr c38, if_true, if_false, not_true_eq_false, not_false_eq_true, true_and, and_true, false_and, and_false, true_or, or_true, false_or, or_false, ite_true, ite_false]; done) | (simp only [j_unlink, j_unlink2, c25, c34, c38, Int32.not_lt.mp c25, Int32.not_le.mp c34, Int32.not_le.mpr c38, if_true, if_false, not_true_eq_false, not_false_eq_true, true_and, and_true, false_and, and_false, true_or, or_true, false_or, or_false, ite_true, ite_false]; simp only [uq_0_1, uq_0_2, uq_0_3, uq_0_4, uq_0_5, uq_1_0, uq_1_2, uq_1_3, uq_1_4, uq_1_5, uq_2_0, uq_2_1, uq_2_3, uq_2_4, uq_2_5, uq_3_0, uq_3_1, uq_3_2, uq_3_4, uq_3_5, uq_4_0, uq_4_1, uq_4_2, uq_4_3, uq_4_5, uq_5_0, uq_5_1, uq_5_2, uq_5_3, uq_5_4, uf_0_0, uf_0_1, uf_0_2, uf_0_3, uf_0_4, uf_0_5, uf_1_0, uf_1_1, uf_1_2, uf_1_3, uf_1_4, uf_1_5, uf_2_0, uf_2_1, uf_2_2, uf_2_3, uf_2_4, uf_2_5, uf_3_0, uf_3_1, uf_3_2, uf_3_3, uf_3_4, uf_3_5, uf_4_0, uf_4_1, uf_4_2, uf_4_3, uf_4_4, uf_4_5, uf_5_0, uf_5_1, uf_5_2, uf_5_3, uf_5_4, uf_5_5, js_0, js_2, js_3, js_4, js_5]; done) | (simp only [j_unlink, j_unlink2, uq_0_1, uq_0_2, uq_0_3, uq_0_4, uq_0_5, uq_1_0, uq_1_2, uq_1_3, uq_1_4, uq_1_5, uq_2_0, uq_2_1, uq_2_3, uq_2_4, uq_2_5, uq_3_0, uq_3_1, uq_3_2, uq_3_4, uq_3_5, uq_4_0, uq_4_1, uq_4_2, uq_4_3, uq_4_5, uq_5_0, uq_5_1, uq_5_2, uq_5_3, uq_5_4, uf_0_0, uf_0_1, uf_0_2, uf_0_3, uf_0_4, uf_0_5, uf_1_0, uf_1_1, uf_1_2, uf_1_3, uf_1_4, uf_1_5, uf_2_0, uf_2_1, uf_2_2, uf_2_3, uf_2_4, uf_2_5, uf_3_0, uf_3_1, uf_3_2, uf_3_3, uf_3_4, uf_3_5, uf_4_0, uf_4_1, uf_4_2, uf_4_3, uf_4_4, uf_4_5, uf_5_0, uf_5_1, uf_5_2, uf_5_3, uf_5_4, uf_5_5, js_0, js_2, js_3, js_4, js_5, c25, c34, c38, Int32.not_lt.mp c25, Int32.not_le.mp c34, Int32.not_le.mpr c38, if_true, if_false, not_true_eq_false, not_false_eq_true, true_and, and_true, false_and, and_false, true_or, or_true, false_or, or_false, ite_true, ite_false]; done))) ▸ hP
        have hD9 : va_D A (nW cI a (j_unlink N x1)) := (show N = j_unlink N x1 from by (first | (simp only [j_unlink, j_unlink2, c25, c34, c38, Int32.not_lt.mp c25, Int32.not_le.mp c34, Int32.not_le.mpr c38, if_true, if_false, not_true_eq_false, not_false_eq_true, true_and, and_true, false_and, and_false, true_or, or_true, false_or, or_false, ite_true, ite_false]; done) | (simp only [j_unlink, j_unlink2, c25, c34, c38, Int32.not_lt.mp c25, Int32.not_le.mp c34, Int32.not_le.mpr c38, if_true, if_false, not_true_eq_false, not_false_eq_true, true_and, and_true, false_and, and_false, true_or, or_true, false_or, or_false, ite_true, ite_false]; simp only [uq_0_1, uq_0_2, uq_0_3, uq_0_4, uq_0_5, uq_1_0, uq_1_2, uq_1_3, uq_1_4, uq_1_5, uq_2_0, uq_2_1, uq_2_3, uq_2_4, uq_2_5, uq_3_0, uq_3_1, uq_3_2, uq_3_4, uq_3_5, uq_4_0, uq_4_1, uq_4_2, uq_4_3, uq_4_5, uq_5_0, uq_5_1, uq_5_2, uq_5_3, uq_5_4, uf_0_0, uf_0_1, uf_0_2, uf_0_3, uf_0_4, uf_0_5, uf_1_0, uf_1_1, uf_1_2, uf_1_3, uf_1_4, uf_1_5, uf_2_0, uf_2_1, uf_2_2, uf_2_3, uf_2_4, uf_2_5, uf_3_0, uf_3_1, uf_3_2, uf_3_3, uf_3_4, uf_3_5, uf_4_0, uf_4_1, uf_4_2, uf_4_3, uf_4_4, uf_4_5, uf_5_0, uf_5_1, uf_5_2, uf_5_3, uf_5_4, uf_5_5, js_0, js_2, js_3, js_4, js_5]; done) | (simp only [j_unlink, j_unlink2, uq_0_1, uq_0_2, uq_0_3, uq_0_4, uq_0_5, uq_1_0, uq_1_2, uq_1_3, uq_1_4, uq_1_5, uq_2_0, uq_2_1, uq_2_3, uq_2_4, uq_2_5, uq_3_0, uq_3_1, uq_3_2, uq_3_4, uq_3_5, uq_4_0, uq_4_1, uq_4_2, uq_4_3, uq_4_5, uq_5_0, uq_5_1, uq_5_2, uq_5_3, uq_5_4, uf_0_0, uf_0_1, uf_0_2, uf_0_3, uf_0_4, uf_0_5, uf_1_0, uf_1_1, uf_1_2, uf_1_3, uf_1_4, uf_1_5, uf_2_0, uf_2_1, uf_2_2, uf_2_3, uf_2_4, uf_2_5, uf_3_0, uf_3_1, uf_3_2, uf_3_3, uf_3_4, uf_3_5, uf_4_0, uf_4_1, uf_4_2, uf_4_3, uf_4_4, uf_4_5, uf_5_0, uf_5_1, uf_5_2, uf_5_3, uf_5_4, uf_5_5, js_0, js_2, js_3, js_4, js_5, c25, c34, c38, Int32.not_lt.mp c25, Int32.not_le.mp c34, Int32.not_le.mpr c38, if_true, if_false, not_true_eq_false, not_false_eq_true, true_and, and_true, false_and, and_false, true_or, or_true, false_or, or_false, ite_true, ite_false]; done))) ▸ hD
        exact W.vret hx hb hr (fun t ht hW => ⟨⟨(), rfl, trivial, by rw [ht]; exact hP9, va_K.moved hW.alike hK, hD9⟩, hS.F ht⟩) hS.2.2 d_N_unlink_50
      · refine lv_iload_n hx hb d_N_unlink_41 rfl (lv_at hl 0 rfl) ?_
        refine lv_aload_n hx hb d_N_unlink_42 rfl (lv_at hl 2 rfl) ?_
        refine va_get (D := (dC, dI)) (ci := 1) (v := .ref (a 2)) (C := R_N) (T := T_N) (N := 11) hx hb hts in_N hown hK hP 0 rfl rfl 1 (by decide) (hts _ kfl_N_25) (fun _ h9 => h9) rfl d_N_unlink_43 ?_
        refine va_alen (v := nI 768) hx hb hK hP 2 0 rfl rfl rfl d_N_unlink_46 ?_
        refine lv_icmp_lt (tgt := 51) hx hb d_N_unlink_47 (by decide) (fun c47 => ?_) (fun c47 => ?_)
        · refine lv_aload_n hx hb d_N_unlink_51 rfl (lv_at hl 2 rfl) ?_
          refine va_get (D := (dC, dI)) (ci := 1) (v := .ref (a 3)) (C := R_N) (T := T_N) (N := 11) hx hb hts in_N hown hK hP 0 rfl rfl 2 (by decide) (hts _ kfl_N_28) (fun _ h9 => h9) rfl d_N_unlink_52 ?_
          refine lv_iload_n hx hb d_N_unlink_55 rfl (lv_at hl 1 rfl) ?_
          refine lv_dup2_11 hx hb d_N_unlink_56 rfl rfl ?_
          refine va_iald hx hb hK hP 3 0 rfl rfl (lt_of_in c25 c34 (by decide)) d_N_unlink_57 ?_
          refine lv_iconst (v := 1) hx hb d_N_unlink_58 (by decide) ?_
          refine lv_isub hx hb d_N_unlink_59 ?_
          refine nAst3 hx hb hK hP hD hS (lt_of_in c25 c34 (by decide)) d_N_unlink_60 (fun H locs hP hD hS => ?_)
          refine lv_aload_n hx hb d_N_unlink_61 rfl (lv_at hl 2 rfl) ?_
          refine va_get (D := (dC, dI)) (ci := 1) (v := .ref (a 2)) (C := R_N) (T := T_N) (N := 11) hx hb hts in_N hown hK hP 0 rfl rfl 1 (by decide) (hts _ kfl_N_25) (fun _ h9 => h9) rfl d_N_unlink_62 ?_
          refine lv_iload_n hx hb d_N_unlink_65 rfl (lv_at hl 0 rfl) ?_
          refine va_iald hx hb hK hP 2 0 rfl rfl (lt_of_in c38 (Int32.not_le.mpr c47) (by decide)) d_N_unlink_66 ?_
          refine lv_iload_n hx hb d_N_unlink_67 rfl (lv_at hl 3 rfl) ?_
          refine lv_icmp_ne (tgt := 84) hx hb d_N_unlink_68 (by decide) (fun c68 => ?_) (fun c68 => ?_)
          · refine lv_aload_n hx hb d_N_unlink_84 rfl (lv_at hl 2 rfl) ?_
            refine va_get (D := (dC, dI)) (ci := 1) (v := .ref (a 2)) (C := R_N) (T := T_N) (N := 11) hx hb hts in_N hown hK hP 0 rfl rfl 1 (by decide) (hts _ kfl_N_25) (fun _ h9 => h9) rfl d_N_unlink_85 ?_
            refine lv_iload_n hx hb d_N_unlink_88 rfl (lv_at hl 0 rfl) ?_
            refine va_iald hx hb hK hP 2 0 rfl rfl (lt_of_in c38 (Int32.not_le.mpr c47) (by decide)) d_N_unlink_89 ?_
            refine lv_istore (lv' := [(4, .int ((up N 3 (j_get N x1 0).toNatClampNeg ((N 3 (j_get N x1 0).toNatClampNeg) - 1)) 2 (j_chainFor (j_get N x1 0) (j_get N x1 1) (j_get N x1 2)).toNatClampNeg)), (3, .int (j_chainFor (j_get N x1 0) (j_get N x1 1) (j_get N x1 2))), (2, .int (j_get N x1 0)), (0, .ref (a 0)), (1, .int x1)]) hx hb d_N_unlink_90 hl (by decide) rfl (fun ls hl => ?_)
            refine lv_iconst (v := 0) hx hb d_N_unlink_92 (by decide) ?_
            refine lv_istore (lv' := [(5, .int 0), (4, .int ((up N 3 (j_get N x1 0).toNatClampNeg ((N 3 (j_get N x1 0).toNatClampNeg) - 1)) 2 (j_chainFor (j_get N x1 0) (j_get N x1 1) (j_get N x1 2)).toNatClampNeg)), (3, .int (j_chainFor (j_get N x1 0) (j_get N x1 1) (j_get N x1 2))), (2, .int (j_get N x1 0)), (0, .ref (a 0)), (1, .int x1)]) hx hb d_N_unlink_93 hl (by decide) rfl (fun ls hl => ?_)
            exact loop 24800 _ 0 _ H locs rfl (by (first | (simp only [j_unlink, j_unlink2, c25, c34, c38, c47, c68, Int32.not_lt.mp c25, Int32.not_le.mp c34, Int32.not_lt.mp c38, Int32.not_le.mpr c47, if_true, if_false, not_true_eq_false, not_false_eq_true, true_and, and_true, false_and, and_false, true_or, or_true, false_or, or_false, ite_true, ite_false]; done) | (simp only [j_unlink, j_unlink2, c25, c34, c38, c47, c68, Int32.not_lt.mp c25, Int32.not_le.mp c34, Int32.not_lt.mp c38, Int32.not_le.mpr c47, if_true, if_false, not_true_eq_false, not_false_eq_true, true_and, and_true, false_and, and_false, true_or, or_true, false_or, or_false, ite_true, ite_false]; simp only [uq_0_1, uq_0_2, uq_0_3, uq_0_4, uq_0_5, uq_1_0, uq_1_2, uq_1_3, uq_1_4, uq_1_5, uq_2_0, uq_2_1, uq_2_3, uq_2_4, uq_2_5, uq_3_0, uq_3_1, uq_3_2, uq_3_4, uq_3_5, uq_4_0, uq_4_1, uq_4_2, uq_4_3, uq_4_5, uq_5_0, uq_5_1, uq_5_2, uq_5_3, uq_5_4, uf_0_0, uf_0_1, uf_0_2, uf_0_3, uf_0_4, uf_0_5, uf_1_0, uf_1_1, uf_1_2, uf_1_3, uf_1_4, uf_1_5, uf_2_0, uf_2_1, uf_2_2, uf_2_3, uf_2_4, uf_2_5, uf_3_0, uf_3_1, uf_3_2, uf_3_3, uf_3_4, uf_3_5, uf_4_0, uf_4_1, uf_4_2, uf_4_3, uf_4_4, uf_4_5, uf_5_0, uf_5_1, uf_5_2, uf_5_3, uf_5_4, uf_5_5, js_0, js_2, js_3, js_4, js_5]; done) | (simp only [j_unlink, j_unlink2, uq_0_1, uq_0_2, uq_0_3, uq_0_4, uq_0_5, uq_1_0, uq_1_2, uq_1_3, uq_1_4, uq_1_5, uq_2_0, uq_2_1, uq_2_3, uq_2_4, uq_2_5, uq_3_0, uq_3_1, uq_3_2, uq_3_4, uq_3_5, uq_4_0, uq_4_1, uq_4_2, uq_4_3, uq_4_5, uq_5_0, uq_5_1, uq_5_2, uq_5_3, uq_5_4, uf_0_0, uf_0_1, uf_0_2, uf_0_3, uf_0_4, uf_0_5, uf_1_0, uf_1_1, uf_1_2, uf_1_3, uf_1_4, uf_1_5, uf_2_0, uf_2_1, uf_2_2, uf_2_3, uf_2_4, uf_2_5, uf_3_0, uf_3_1, uf_3_2, uf_3_3, uf_3_4, uf_3_5, uf_4_0, uf_4_1, uf_4_2, uf_4_3, uf_4_4, uf_4_5, uf_5_0, uf_5_1, uf_5_2, uf_5_3, uf_5_4, uf_5_5, js_0, js_2, js_3, js_4, js_5, c25, c34, c38, c47, c68, Int32.not_lt.mp c25, Int32.not_le.mp c34, Int32.not_lt.mp c38, Int32.not_le.mpr c47, if_true, if_false, not_true_eq_false, not_false_eq_true, true_and, and_true, false_and, and_false, true_or, or_true, false_or, or_false, ite_true, ite_false]; done))) hP hD hS ls (lv_sub hl [0, 1, 4, 5] rfl)
          · refine lv_aload_n hx hb d_N_unlink_71 rfl (lv_at hl 2 rfl) ?_
            refine va_get (D := (dC, dI)) (ci := 1) (v := .ref (a 2)) (C := R_N) (T := T_N) (N := 11) hx hb hts in_N hown hK hP 0 rfl rfl 1 (by decide) (hts _ kfl_N_25) (fun _ h9 => h9) rfl d_N_unlink_72 ?_
            refine lv_iload_n hx hb d_N_unlink_75 rfl (lv_at hl 0 rfl) ?_
            refine lv_aload_n hx hb d_N_unlink_76 rfl (lv_at hl 2 rfl) ?_
            refine lv_iload_n hx hb d_N_unlink_77 rfl (lv_at hl 3 rfl) ?_
            refine lv_iconst (v := 3) hx hb d_N_unlink_78 (by decide) ?_
            refine nCallR (As := [.int x1, .int 3]) (rest := [.int (j_chainFor (j_get N x1 0) (j_get N x1 1) (j_get N x1 2)), .ref (a 2)]) ⟨hx, hb, hml, hown, hts⟩ (c_N_get l dC dI cI a (up N 3 (j_get N x1 0).toNatClampNeg ((N 3 (j_get N x1 0).toNatClampNeg) - 1)) x1 3) (cwV 2 hts (gV kml_N_46 kim_N_get ksl_N_get kin_N kcd_N_get) rfl rfl rfl (by decide +kernel) ⟨Nat.le_of_ble_eq_true rfl, Nat.le_of_ble_eq_true rfl⟩) hP hK rfl hl.1 rfl (Nat.le_of_ble_eq_true rfl) d_N_unlink_79 ⟨Nat.zero_le _, Nat.zero_le _⟩ ?_
            refine nAst2 hx hb hK hP hD hS (lt_of_in c38 (Int32.not_le.mpr c47) (by decide)) d_N_unlink_82 (fun H locs hP hD hS => ?_)
            have hP9 : va_P (dC, dI) cls0 (nW cI a (j_unlink N x1)) _ := (show up (up N 3 (j_get N x1 0).toNatClampNeg ((N 3 (j_get N x1 0).toNatClampNeg) - 1)) 2 (j_chainFor (j_get N x1 0) (j_get N x1 1) (j_get N x1 2)).toNatClampNeg (j_get (up N 3 (j_get N x1 0).toNatClampNeg ((N 3 (j_get N x1 0).toNatClampNeg) - 1)) x1 3) = j_unlink N x1 from by (first | (simp only [j_unlink, j_unlink2, c25, c34, c38, c47, if_pos c68, Int32.not_lt.mp c25, Int32.not_le.mp c34, Int32.not_lt.mp c38, Int32.not_le.mpr c47, if_true, if_false, not_true_eq_false, not_false_eq_true, true_and, and_true, false_and, and_false, true_or, or_true, false_or, or_false, ite_true, ite_false]; done) | (simp only [j_unlink, j_unlink2, c25, c34, c38, c47, c68, Int32.not_lt.mp c25, Int32.not_le.mp c34, Int32.not_lt.mp c38, Int32.not_le.mpr c47, if_true, if_false, not_true_eq_false, not_false_eq_true, true_and, and_true, false_and, and_false, true_or, or_true, false_or, or_false, ite_true, ite_false]; done) | (simp only [j_unlink, j_unlink2, c25, c34, c38, c47, Int32.not_lt.mp c25, Int32.not_le.mp c34, Int32.not_lt.mp c38, Int32.not_le.mpr c47, if_true, if_false, not_true_eq_false, not_false_eq_true, true_and, and_true, false_and, and_false, true_or, or_true, false_or, or_false, ite_true, ite_false]; rw [if_pos c68]) | (simp only [j_unlink, j_unlink2, c25, c34, c38, c47, if_pos c68, Int32.not_lt.mp c25, Int32.not_le.mp c34, Int32.not_lt.mp c38, Int32.not_le.mpr c47, if_true, if_false, not_true_eq_false, not_false_eq_true, true_and, and_true, false_and, and_false, true_or, or_true, false_or, or_false, ite_true, ite_false]; simp only [uq_0_1, uq_0_2, uq_0_3, uq_0_4, uq_0_5, uq_1_0, uq_1_2, uq_1_3, uq_1_4, uq_1_5, uq_2_0, uq_2_1, uq_2_3, uq_2_4, uq_2_5, uq_3_0, uq_3_1, uq_3_2, uq_3_4, uq_3_5, uq_4_0, uq_4_1, uq_4_2, uq_4_3, uq_4_5, uq_5_0, uq_5_1, uq_5_2, uq_5_3, uq_5_4, uf_0_0, uf_0_1, uf_0_2, uf_0_3, uf_0_4, uf_0_5, uf_1_0, uf_1_1, uf_1_2, uf_1_3, uf_1_4, uf_1_5, uf_2_0, uf_2_1, uf_2_2, uf_2_3, uf_2_4, uf_2_5, uf_3_0, uf_3_1, uf_3_2, uf_3_3, uf_3_4, uf_3_5, uf_4_0, uf_4_1, uf_4_2, uf_4_3, uf_4_4, uf_4_5, uf_5_0, uf_5_1, uf_5_2, uf_5_3, uf_5_4, uf_5_5, js_0, js_2, js_3, js_4, js_5]; done) | (simp only [j_unlink, j_unlink2, uq_0_1, uq_0_2, uq_0_3, uq_0_4, uq_0_5, uq_1_0, uq_1_2, uq_1_3, uq_1_4, uq_1_5, uq_2_0, uq_2_1, uq_2_3, uq_2_4, uq_2_5, uq_3_0, uq_3_1, uq_3_2, uq_3_4, uq_3_5, uq_4_0, uq_4_1, uq_4_2, uq_4_3, uq_4_5, uq_5_0, uq_5_1, uq_5_2, uq_5_3, uq_5_4, uf_0_0, uf_0_1, uf_0_2, uf_0_3, uf_0_4, uf_0_5, uf_1_0, uf_1_1, uf_1_2, uf_1_3, uf_1_4, uf_1_5, uf_2_0, uf_2_1, uf_2_2, uf_2_3, uf_2_4, uf_2_5, uf_3_0, uf_3_1, uf_3_2, uf_3_3, uf_3_4, uf_3_5, uf_4_0, uf_4_1, uf_4_2, uf_4_3, uf_4_4, uf_4_5, uf_5_0, uf_5_1, uf_5_2, uf_5_3, uf_5_4, uf_5_5, js_0, js_2, js_3, js_4, js_5, c25, c34, c38, c47, if_pos c68, Int32.not_lt.mp c25, Int32.not_le.mp c34, Int32.not_lt.mp c38, Int32.not_le.mpr c47, if_true, if_false, not_true_eq_false, not_false_eq_true, true_and, and_true, false_and, and_false, true_or, or_true, false_or, or_false, ite_true, ite_false]; done) | (simp only [j_unlink, j_unlink2, uq_0_1, uq_0_2, uq_0_3, uq_0_4, uq_0_5, uq_1_0, uq_1_2, uq_1_3, uq_1_4, uq_1_5, uq_2_0, uq_2_1, uq_2_3, uq_2_4, uq_2_5, uq_3_0, uq_3_1, uq_3_2, uq_3_4, uq_3_5, uq_4_0, uq_4_1, uq_4_2, uq_4_3, uq_4_5, uq_5_0, uq_5_1, uq_5_2, uq_5_3, uq_5_4, uf_0_0, uf_0_1, uf_0_2, uf_0_3, uf_0_4, uf_0_5, uf_1_0, uf_1_1, uf_1_2, uf_1_3, uf_1_4, uf_1_5, uf_2_0, uf_2_1, uf_2_2, uf_2_3, uf_2_4, uf_2_5, uf_3_0, uf_3_1, uf_3_2, uf_3_3, uf_3_4, uf_3_5, uf_4_0, uf_4_1, uf_4_2, uf_4_3, uf_4_4, uf_4_5, uf_5_0, uf_5_1, uf_5_2, uf_5_3, uf_5_4, uf_5_5, js_0, js_2, js_3, js_4, js_5, c25, c34, c38, c47, c68, Int32.not_lt.mp c25, Int32.not_le.mp c34, Int32.not_lt.mp c38, Int32.not_le.mpr c47, if_true, if_false, not_true_eq_false, not_false_eq_true, true_and, and_true, false_and, and_false, true_or, or_true, false_or, or_false, ite_true, ite_false]; done))) ▸ hP
            have hD9 : va_D A (nW cI a (j_unlink N x1)) := (show up (up N 3 (j_get N x1 0).toNatClampNeg ((N 3 (j_get N x1 0).toNatClampNeg) - 1)) 2 (j_chainFor (j_get N x1 0) (j_get N x1 1) (j_get N x1 2)).toNatClampNeg (j_get (up N 3 (j_get N x1 0).toNatClampNeg ((N 3 (j_get N x1 0).toNatClampNeg) - 1)) x1 3) = j_unlink N x1 from by (first | (simp only [j_unlink, j_unlink2, c25, c34, c38, c47, if_pos c68, Int32.not_lt.mp c25, Int32.not_le.mp c34, Int32.not_lt.mp c38, Int32.not_le.mpr c47, if_true, if_false, not_true_eq_false, not_false_eq_true, true_and, and_true, false_and, and_false, true_or, or_true, false_or, or_false, ite_true, ite_false]; done) | (simp only [j_unlink, j_unlink2, c25, c34, c38, c47, c68, Int32.not_lt.mp c25, Int32.not_le.mp c34, Int32.not_lt.mp c38, Int32.not_le.mpr c47, if_true, if_false, not_true_eq_false, not_false_eq_true, true_and, and_true, false_and, and_false, true_or, or_true, false_or, or_false, ite_true, ite_false]; done) | (simp only [j_unlink, j_unlink2, c25, c34, c38, c47, Int32.not_lt.mp c25, Int32.not_le.mp c34, Int32.not_lt.mp c38, Int32.not_le.mpr c47, if_true, if_false, not_true_eq_false, not_false_eq_true, true_and, and_true, false_and, and_false, true_or, or_true, false_or, or_false, ite_true, ite_false]; rw [if_pos c68]) | (simp only [j_unlink, j_unlink2, c25, c34, c38, c47, if_pos c68, Int32.not_lt.mp c25, Int32.not_le.mp c34, Int32.not_lt.mp c38, Int32.not_le.mpr c47, if_true, if_false, not_true_eq_false, not_false_eq_true, true_and, and_true, false_and, and_false, true_or, or_true, false_or, or_false, ite_true, ite_false]; simp only [uq_0_1, uq_0_2, uq_0_3, uq_0_4, uq_0_5, uq_1_0, uq_1_2, uq_1_3, uq_1_4, uq_1_5, uq_2_0, uq_2_1, uq_2_3, uq_2_4, uq_2_5, uq_3_0, uq_3_1, uq_3_2, uq_3_4, uq_3_5, uq_4_0, uq_4_1, uq_4_2, uq_4_3, uq_4_5, uq_5_0, uq_5_1, uq_5_2, uq_5_3, uq_5_4, uf_0_0, uf_0_1, uf_0_2, uf_0_3, uf_0_4, uf_0_5, uf_1_0, uf_1_1, uf_1_2, uf_1_3, uf_1_4, uf_1_5, uf_2_0, uf_2_1, uf_2_2, uf_2_3, uf_2_4, uf_2_5, uf_3_0, uf_3_1, uf_3_2, uf_3_3, uf_3_4, uf_3_5, uf_4_0, uf_4_1, uf_4_2, uf_4_3, uf_4_4, uf_4_5, uf_5_0, uf_5_1, uf_5_2, uf_5_3, uf_5_4, uf_5_5, js_0, js_2, js_3, js_4, js_5]; done) | (simp only [j_unlink, j_unlink2, uq_0_1, uq_0_2, uq_0_3, uq_0_4, uq_0_5, uq_1_0, uq_1_2, uq_1_3, uq_1_4, uq_1_5, uq_2_0, uq_2_1, uq_2_3, uq_2_4, uq_2_5, uq_3_0, uq_3_1, uq_3_2, uq_3_4, uq_3_5, uq_4_0, uq_4_1, uq_4_2, uq_4_3, uq_4_5, uq_5_0, uq_5_1, uq_5_2, uq_5_3, uq_5_4, uf_0_0, uf_0_1, uf_0_2, uf_0_3, uf_0_4, uf_0_5, uf_1_0, uf_1_1, uf_1_2, uf_1_3, uf_1_4, uf_1_5, uf_2_0, uf_2_1, uf_2_2, uf_2_3, uf_2_4, uf_2_5, uf_3_0, uf_3_1, uf_3_2, uf_3_3, uf_3_4, uf_3_5, uf_4_0, uf_4_1, uf_4_2, uf_4_3, uf_4_4, uf_4_5, uf_5_0, uf_5_1, uf_5_2, uf_5_3, uf_5_4, uf_5_5, js_0, js_2, js_3, js_4, js_5, c25, c34, c38, c47, if_pos c68, Int32.not_lt.mp c25, Int32.not_le.mp c34, Int32.not_lt.mp c38, Int32.not_le.mpr c47, if_true, if_false, not_true_eq_false, not_false_eq_true, true_and, and_true, false_and, and_false, true_or, or_true, false_or, or_false, ite_true, ite_false]; done) | (simp only [j_unlink, j_unlink2, uq_0_1, uq_0_2, uq_0_3, uq_0_4, uq_0_5, uq_1_0, uq_1_2, uq_1_3, uq_1_4, uq_1_5, uq_2_0, uq_2_1, uq_2_3, uq_2_4, uq_2_5, uq_3_0, uq_3_1, uq_3_2, uq_3_4, uq_3_5, uq_4_0, uq_4_1, uq_4_2, uq_4_3, uq_4_5, uq_5_0, uq_5_1, uq_5_2, uq_5_3, uq_5_4, uf_0_0, uf_0_1, uf_0_2, uf_0_3, uf_0_4, uf_0_5, uf_1_0, uf_1_1, uf_1_2, uf_1_3, uf_1_4, uf_1_5, uf_2_0, uf_2_1, uf_2_2, uf_2_3, uf_2_4, uf_2_5, uf_3_0, uf_3_1, uf_3_2, uf_3_3, uf_3_4, uf_3_5, uf_4_0, uf_4_1, uf_4_2, uf_4_3, uf_4_4, uf_4_5, uf_5_0, uf_5_1, uf_5_2, uf_5_3, uf_5_4, uf_5_5, js_0, js_2, js_3, js_4, js_5, c25, c34, c38, c47, c68, Int32.not_lt.mp c25, Int32.not_le.mp c34, Int32.not_lt.mp c38, Int32.not_le.mpr c47, if_true, if_false, not_true_eq_false, not_false_eq_true, true_and, and_true, false_and, and_false, true_or, or_true, false_or, or_false, ite_true, ite_false]; done))) ▸ hD
            exact W.vret hx hb hr (fun t ht hW => ⟨⟨(), rfl, trivial, by rw [ht]; exact hP9, va_K.moved hW.alike hK, hD9⟩, hS.F ht⟩) hS.2.2 d_N_unlink_83
        · have hP9 : va_P (dC, dI) cls0 (nW cI a (j_unlink N x1)) _ := (show N = j_unlink N x1 from by (first | (simp only [j_unlink, j_unlink2, c25, c34, c38, c47, Int32.not_lt.mp c25, Int32.not_le.mp c34, Int32.not_lt.mp c38, Int32.not_lt.mp c47, if_true, if_false, not_true_eq_false, not_false_eq_true, true_and, and_true, false_and, and_false, true_or, or_true, false_or, or_false, ite_true, ite_false]; done) | (simp only [j_unlink, j_unlink2, c25, c34, c38, c47, Int32.not_lt.mp c25, Int32.not_le.mp c34, Int32.not_lt.mp c38, Int32.not_lt.mp c47, if_true, if_false, not_true_eq_false, not_false_eq_true, true_and, and_true, false_and, and_false, true_or, or_true, false_or, or_false, ite_true, ite_false]; simp only [uq_0_1, uq_0_2, uq_0_3, uq_0_4, uq_0_5, uq_1_0, uq_1_2, uq_1_3, uq_1_4, uq_1_5, uq_2_0, uq_2_1, uq_2_3, uq_2_4, uq_2_5, uq_3_0, uq_3_1, uq_3_2, uq_3_4, uq_3_5, uq_4_0, uq_4_1, uq_4_2, uq_4_3, uq_4_5, uq_5_0, uq_5_1, uq_5_2, uq_5_3, uq_5_4, uf_0_0, uf_0_1, uf_0_2, uf_0_3, uf_0_4, uf_0_5, uf_1_0, uf_1_1, uf_1_2, uf_1_3, uf_1_4, uf_1_5, uf_2_0, uf_2_1, uf_2_2, uf_2_3, uf_2_4, uf_2_5, uf_3_0, uf_3_1, uf_3_2, uf_3_3, uf_3_4, uf_3_5, uf_4_0, uf_4_1, uf_4_2, uf_4_3, uf_4_4, uf_4_5, uf_5_0, uf_5_1, uf_5_2, uf_5_3, uf_5_4, uf_5_5, js_0, js_2, js_3, js_4, js_5]; done) | (simp only [j_unlink, j_unlink2, uq_0_1, uq_0_2, uq_0_3, uq_0_4, uq_0_5, uq_1_0, uq_1_2, uq_1_3, uq_1_4, uq_1_5, uq_2_0, uq_2_1, uq_2_3, uq_2_4, uq_2_5, uq_3_0, uq_3_1, uq_3_2, uq_3_4, uq_3_5, uq_4_0, uq_4_1, uq_4_2, uq_4_3, uq_4_5, uq_5_0, uq_5_1, uq_5_2, uq_5_3, uq_5_4, uf_0_0, uf_0_1, uf_0_2, uf_0_3, uf_0_4, uf_0_5, uf_1_0, uf_1_1, uf_1_2, uf_1_3, uf_1_4, uf_1_5, uf_2_0, uf_2_1, uf_2_2, uf_2_3, uf_2_4, uf_2_5, uf_3_0, uf_3_1, uf_3_2, uf_3_3, uf_3_4, uf_3_5, uf_4_0, uf_4_1, uf_4_2, uf_4_3, uf_4_4, uf_4_5, uf_5_0, uf_5_1, uf_5_2, uf_5_3, uf_5_4, uf_5_5, js_0, js_2, js_3, js_4, js_5, c25, c34, c38, c47, Int32.not_lt.mp c25, Int32.not_le.mp c34, Int32.not_lt.mp c38, Int32.not_lt.mp c47, if_true, if_false, not_true_eq_false, not_false_eq_true, true_and, and_true, false_and, and_false, true_or, or_true, false_or, or_false, ite_true, ite_false]; done))) ▸ hP
          have hD9 : va_D A (nW cI a (j_unlink N x1)) := (show N = j_unlink N x1 from by (first | (simp only [j_unlink, j_unlink2, c25, c34, c38, c47, Int32.not_lt.mp c25, Int32.not_le.mp c34, Int32.not_lt.mp c38, Int32.not_lt.mp c47, if_true, if_false, not_true_eq_false, not_false_eq_true, true_and, and_true, false_and, and_false, true_or, or_true, false_or, or_false, ite_true, ite_false]; done) | (simp only [j_unlink, j_unlink2, c25, c34, c38, c47, Int32.not_lt.mp c25, Int32.not_le.mp c34, Int32.not_lt.mp c38, Int32.not_lt.mp c47, if_true, if_false, not_true_eq_false, not_false_eq_true, true_and, and_true, false_and, and_false, true_or, or_true, false_or, or_false, ite_true, ite_false]; simp only [uq_0_1, uq_0_2, uq_0_3, uq_0_4, uq_0_5, uq_1_0, uq_1_2, uq_1_3, uq_1_4, uq_1_5, uq_2_0, uq_2_1, uq_2_3, uq_2_4, uq_2_5, uq_3_0, uq_3_1, uq_3_2, uq_3_4, uq_3_5, uq_4_0, uq_4_1, uq_4_2, uq_4_3, uq_4_5, uq_5_0, uq_5_1, uq_5_2, uq_5_3, uq_5_4, uf_0_0, uf_0_1, uf_0_2, uf_0_3, uf_0_4, uf_0_5, uf_1_0, uf_1_1, uf_1_2, uf_1_3, uf_1_4, uf_1_5, uf_2_0, uf_2_1, uf_2_2, uf_2_3, uf_2_4, uf_2_5, uf_3_0, uf_3_1, uf_3_2, uf_3_3, uf_3_4, uf_3_5, uf_4_0, uf_4_1, uf_4_2, uf_4_3, uf_4_4, uf_4_5, uf_5_0, uf_5_1, uf_5_2, uf_5_3, uf_5_4, uf_5_5, js_0, js_2, js_3, js_4, js_5]; done) | (simp only [j_unlink, j_unlink2, uq_0_1, uq_0_2, uq_0_3, uq_0_4, uq_0_5, uq_1_0, uq_1_2, uq_1_3, uq_1_4, uq_1_5, uq_2_0, uq_2_1, uq_2_3, uq_2_4, uq_2_5, uq_3_0, uq_3_1, uq_3_2, uq_3_4, uq_3_5, uq_4_0, uq_4_1, uq_4_2, uq_4_3, uq_4_5, uq_5_0, uq_5_1, uq_5_2, uq_5_3, uq_5_4, uf_0_0, uf_0_1, uf_0_2, uf_0_3, uf_0_4, uf_0_5, uf_1_0, uf_1_1, uf_1_2, uf_1_3, uf_1_4, uf_1_5, uf_2_0, uf_2_1, uf_2_2, uf_2_3, uf_2_4, uf_2_5, uf_3_0, uf_3_1, uf_3_2, uf_3_3, uf_3_4, uf_3_5, uf_4_0, uf_4_1, uf_4_2, uf_4_3, uf_4_4, uf_4_5, uf_5_0, uf_5_1, uf_5_2, uf_5_3, uf_5_4, uf_5_5, js_0, js_2, js_3, js_4, js_5, c25, c34, c38, c47, Int32.not_lt.mp c25, Int32.not_le.mp c34, Int32.not_lt.mp c38, Int32.not_lt.mp c47, if_true, if_false, not_true_eq_false, not_false_eq_true, true_and, and_true, false_and, and_false, true_or, or_true, false_or, or_false, ite_true, ite_false]; done))) ▸ hD
          exact W.vret hx hb hr (fun t ht hW => ⟨⟨(), rfl, trivial, by rw [ht]; exact hP9, va_K.moved hW.alike hK, hD9⟩, hS.F ht⟩) hS.2.2 d_N_unlink_50
end
section
set_option maxHeartbeats 4000000 in
set_option maxRecDepth 100000 in
/-- N_make -/
theorem c_N_make (l : Launch) (dC : Nat → ClassId) (dI : Nat → Nat → Nat) (cI : ClassId) (a : Nat → Nat) (N : Mm) (sz : Nat) (x1 x2 x3 : Int32) : Met l y_N_make (.code y_N_make b_N_make 7 (some .int) :: W0) ({ frames := 2, cells := 0, slots := 0, locals := 49 } : Room) (va_Pc [.ref (a 0), .int x1, .int x2, .int x3] (nM dC dI cI a N sz)) (va_Qi (fun (z : Int32) (_ : Unit) => z = (j_make N x1 x2 x3).2) (fun _ t => nE dC dI cI a ((j_make N x1 x2 x3).1) (va_A (nW cI a N) sz) t) (va_A (nW cI a N) sz)) 0 0 (va_A (nW cI a N) sz) := by
  refine Met.ofW (cc := b_N_make) (maxL := 7) (ret := (some .int)) (by decide) rfl ?_
  intro p e s m args below meth c s₁ B hml hv
  obtain ⟨rfl, hsz, hP, hK, hD0⟩ := hv
  have hx := B.exec
  have hb := B.bytes
  have hr := B.returns
  have hts1 := atoms_spec (ws := .code y_N_make b_N_make 7 (some .int) :: W0) B.pre
  have hts : ∀ w ∈ W0, w.before _ s = true := fun w h => hts1 w (List.mem_cons_of_mem _ h)
  have hown : s.vm.findClass R_N = some m.cls := findClass_of_methodNamed B.named
  have hlocks := B.notSynchronized
  subst hsz
  have hD := hD0.self (sz := s.heap.size)
  generalize hAe : va_A (nW cI a N) s.heap.size = A at hD ⊢
  have hA : ∀ q : Nat, s.heap.size ≤ q → A q := fun q h => by rw [← hAe]; exact Or.inr h
  have hS : va_S A s.heap s.heap [] := va_S.rf
  have hP : va_P (dC, dI) cls0 (nW cI a N) s.heap := hP
  have hl := lv_entry ([.ref (a 0), .int x1, .int x2, .int x3]) (n := 7) (Nat.le_of_ble_eq_true rfl)
  rw [lg_entry_eq]
  generalize (lg_sl ([.ref (a 0), .int x1, .int x2, .int x3]) ++ List.replicate (7 - (lg_sl ([.ref (a 0), .int x1, .int x2, .int x3])).length) Slot.unset).toArray = ls at hl ⊢
  have hl : lv_has ls 7 [(0, .ref (a 0)), (1, .int x1), (2, .int x2), (3, .int x3)] := hl
  have loop : ∀ (n : Nat) (i : Nat) (x5 : Int32) (H : Heap) (locs : List Loc), i + n = 24800 → j_make N x1 x2 x3 = (if j_findL N x2 x3 n x5 = 0 then j_fresh2 N x1 x2 x3 else (N, j_findL N x2 x3 n x5)) → va_P (dC, dI) cls0 (nW cI a N) H → va_D A (nW cI a N) → va_S A s.heap H locs → ∀ (ls : Array Slot), lv_has ls 7 [(6, .int (nI i)), (5, .int x5), (0, .ref (a 0)), (1, .int x1), (2, .int x2), (3, .int x3)] → W p l e (headSpec (.code y_N_make b_N_make 7 (some .int) :: W0) ({ frames := 2, cells := 0, slots := 0, locals := 49 } : Room)).room s m ([.ref (a 0), .int x1, .int x2, .int x3] : List Value).toArray below meth c H locs 0 0 (MQ below (va_Qi (fun (z : Int32) (_ : Unit) => z = (j_make N x1 x2 x3).2) (fun _ t => nE dC dI cI a ((j_make N x1 x2 x3).1) A t) A) ([.ref (a 0), .int x1, .int x2, .int x3] : List Value).toArray s 0 0 A) (F0 m 44 ls []) := by
    intro n
    induction n with
    | zero =>
      intro i x5 H locs hi hr0 hP hD hS ls hl
      refine lv_iload hx hb d_N_make_44 (lv_at hl 0 rfl) ?_
      refine lv_sipush (v := 24800) hx hb d_N_make_46 (by decide) ?_
      refine lv_icmp_ge (tgt := 97) hx hb d_N_make_49 (by decide) (fun c49 => ?_) (fun c49 => ?_)
      · refine lv_aload_n hx hb d_N_make_97 rfl (lv_at hl 2 rfl) ?_
        refine nCalli (As := []) (rest := []) ⟨hx, hb, hml, hown, hts⟩ (c_N_freshRow l dC dI cI a N _ ) (cwV 0 hts (gV kml_N_73 kim_N_freshRow ksl_N_freshRow kin_N kcd_N_freshRow) rfl rfl rfl (by decide +kernel) ⟨Nat.le_of_ble_eq_true rfl, Nat.le_of_ble_eq_true rfl⟩) hP hK hD hS hA rfl hl.1 rfl (Nat.le_of_ble_eq_true rfl) d_N_make_98 ⟨Nat.zero_le _, Nat.zero_le _⟩ (fun H locs hP hD hS => ?_)
        refine lv_istore (lv' := [(5, .int ((j_freshRow N).2)), (6, .int (nI i)), (0, .ref (a 0)), (1, .int x1), (2, .int x2), (3, .int x3)]) hx hb d_N_make_101 hl (by decide) rfl (fun ls hl => ?_)
        refine lv_iload hx hb d_N_make_103 (lv_at hl 0 rfl) ?_
        refine lv_if_ne (tgt := 110) hx hb d_N_make_105 (by decide) (fun c105 => ?_) (fun c105 => ?_)
        · refine lv_aload_n hx hb d_N_make_110 rfl (lv_at hl 2 rfl) ?_
          refine lv_iload_n hx hb d_N_make_111 rfl (lv_at hl 4 rfl) ?_
          refine lv_iconst (v := 1) hx hb d_N_make_112 (by decide) ?_
          refine nCallv (As := [.int x2, .int 1]) (rest := []) ⟨hx, hb, hml, hown, hts⟩ (c_N_refer l dC dI cI a ((j_freshRow N).1) _ x2 1) (cwV 2 hts (gV kml_N_77 kim_N_refer ksl_N_refer kin_N kcd_N_refer) rfl rfl rfl (by decide +kernel) ⟨Nat.le_of_ble_eq_true rfl, Nat.le_of_ble_eq_true rfl⟩) hP hK hD hS hA rfl hl.1 rfl (Nat.le_of_ble_eq_true rfl) d_N_make_113 ⟨Nat.zero_le _, Nat.zero_le _⟩ (fun H locs hP hD hS => ?_)
          refine lv_aload_n hx hb d_N_make_116 rfl (lv_at hl 2 rfl) ?_
          refine lv_iload_n hx hb d_N_make_117 rfl (lv_at hl 5 rfl) ?_
          refine lv_iconst (v := 1) hx hb d_N_make_118 (by decide) ?_
          refine nCallv (As := [.int x3, .int 1]) (rest := []) ⟨hx, hb, hml, hown, hts⟩ (c_N_refer l dC dI cI a (j_refer ((j_freshRow N).1) x2 1) _ x3 1) (cwV 2 hts (gV kml_N_77 kim_N_refer ksl_N_refer kin_N kcd_N_refer) rfl rfl rfl (by decide +kernel) ⟨Nat.le_of_ble_eq_true rfl, Nat.le_of_ble_eq_true rfl⟩) hP hK hD hS hA rfl hl.1 rfl (Nat.le_of_ble_eq_true rfl) d_N_make_119 ⟨Nat.zero_le _, Nat.zero_le _⟩ (fun H locs hP hD hS => ?_)
          refine lv_aload_n hx hb d_N_make_122 rfl (lv_at hl 2 rfl) ?_
          refine lv_iload hx hb d_N_make_123 (lv_at hl 0 rfl) ?_
          refine lv_iload_n hx hb d_N_make_125 rfl (lv_at hl 3 rfl) ?_
          refine lv_iload_n hx hb d_N_make_126 rfl (lv_at hl 4 rfl) ?_
          refine lv_iload_n hx hb d_N_make_127 rfl (lv_at hl 5 rfl) ?_
          refine nCallv (As := [.int ((j_freshRow N).2), .int x1, .int x2, .int x3]) (rest := []) ⟨hx, hb, hml, hown, hts⟩ (c_N_link l dC dI cI a (j_refer (j_refer ((j_freshRow N).1) x2 1) x3 1) _ ((j_freshRow N).2) x1 x2 x3) (cwV 4 hts (gV kml_N_81 kim_N_link ksl_N_link kin_N kcd_N_link) rfl rfl rfl (by decide +kernel) ⟨Nat.le_of_ble_eq_true rfl, Nat.le_of_ble_eq_true rfl⟩) hP hK hD hS hA rfl hl.1 rfl (Nat.le_of_ble_eq_true rfl) d_N_make_128 ⟨Nat.zero_le _, Nat.zero_le _⟩ (fun H locs hP hD hS => ?_)
          refine lv_iload hx hb d_N_make_131 (lv_at hl 0 rfl) ?_
          have hP9 : va_P (dC, dI) cls0 (nW cI a ((j_make N x1 x2 x3).1)) _ := (show j_link (j_refer (j_refer ((j_freshRow N).1) x2 1) x3 1) ((j_freshRow N).2) x1 x2 x3 = (j_make N x1 x2 x3).1 from by rw [hr0]; simp only [j_findL, j_fresh2, c49, c105, Int32.not_lt.mpr c49, if_true, if_false, not_true_eq_false, not_false_eq_true, true_and, and_true, false_and, and_false, true_or, or_true, false_or, or_false, ite_true, ite_false]) ▸ hP
          have hD9 : va_D A (nW cI a ((j_make N x1 x2 x3).1)) := (show j_link (j_refer (j_refer ((j_freshRow N).1) x2 1) x3 1) ((j_freshRow N).2) x1 x2 x3 = (j_make N x1 x2 x3).1 from by rw [hr0]; simp only [j_findL, j_fresh2, c49, c105, Int32.not_lt.mpr c49, if_true, if_false, not_true_eq_false, not_false_eq_true, true_and, and_true, false_and, and_false, true_or, or_true, false_or, or_false, ite_true, ite_false]) ▸ hD
          exact W.iret (v := ((j_freshRow N).2)) hx hb hr (fun t ht hW => ⟨⟨(j_freshRow N).2, (), rfl, (show (j_freshRow N).2 = (j_make N x1 x2 x3).2 from by rw [hr0]; simp only [j_findL, j_fresh2, c49, c105, Int32.not_lt.mpr c49, if_true, if_false, not_true_eq_false, not_false_eq_true, true_and, and_true, false_and, and_false, true_or, or_true, false_or, or_false, ite_true, ite_false]), by rw [ht]; exact hP9, va_K.moved hW.alike hK, hD9⟩, hS.F ht⟩) hS.2.2 d_N_make_133
        · refine lv_iconst (v := 0) hx hb d_N_make_108 (by decide) ?_
          have hP9 : va_P (dC, dI) cls0 (nW cI a ((j_make N x1 x2 x3).1)) _ := (show (j_freshRow N).1 = (j_make N x1 x2 x3).1 from by rw [hr0]; (first | (simp only [j_findL, j_fresh2, c49, if_pos c105, Int32.not_lt.mpr c49, if_true, if_false, not_true_eq_false, not_false_eq_true, true_and, and_true, false_and, and_false, true_or, or_true, false_or, or_false, ite_true, ite_false]; done) | (simp only [j_findL, j_fresh2, c49, c105, Int32.not_lt.mpr c49, if_true, if_false, not_true_eq_false, not_false_eq_true, true_and, and_true, false_and, and_false, true_or, or_true, false_or, or_false, ite_true, ite_false]; done) | (simp only [j_findL, j_fresh2, c49, Int32.not_lt.mpr c49, if_true, if_false, not_true_eq_false, not_false_eq_true, true_and, and_true, false_and, and_false, true_or, or_true, false_or, or_false, ite_true, ite_false]; rw [if_pos c105]))) ▸ hP
          have hD9 : va_D A (nW cI a ((j_make N x1 x2 x3).1)) := (show (j_freshRow N).1 = (j_make N x1 x2 x3).1 from by rw [hr0]; (first | (simp only [j_findL, j_fresh2, c49, if_pos c105, Int32.not_lt.mpr c49, if_true, if_false, not_true_eq_false, not_false_eq_true, true_and, and_true, false_and, and_false, true_or, or_true, false_or, or_false, ite_true, ite_false]; done) | (simp only [j_findL, j_fresh2, c49, c105, Int32.not_lt.mpr c49, if_true, if_false, not_true_eq_false, not_false_eq_true, true_and, and_true, false_and, and_false, true_or, or_true, false_or, or_false, ite_true, ite_false]; done) | (simp only [j_findL, j_fresh2, c49, Int32.not_lt.mpr c49, if_true, if_false, not_true_eq_false, not_false_eq_true, true_and, and_true, false_and, and_false, true_or, or_true, false_or, or_false, ite_true, ite_false]; rw [if_pos c105]))) ▸ hD
          exact W.iret (v := 0) hx hb hr (fun t ht hW => ⟨⟨0, (), rfl, (show 0 = (j_make N x1 x2 x3).2 from by rw [hr0]; (first | (simp only [j_findL, j_fresh2, c49, if_pos c105, Int32.not_lt.mpr c49, if_true, if_false, not_true_eq_false, not_false_eq_true, true_and, and_true, false_and, and_false, true_or, or_true, false_or, or_false, ite_true, ite_false]; done) | (simp only [j_findL, j_fresh2, c49, c105, Int32.not_lt.mpr c49, if_true, if_false, not_true_eq_false, not_false_eq_true, true_and, and_true, false_and, and_false, true_or, or_true, false_or, or_false, ite_true, ite_false]; done) | (simp only [j_findL, j_fresh2, c49, Int32.not_lt.mpr c49, if_true, if_false, not_true_eq_false, not_false_eq_true, true_and, and_true, false_and, and_false, true_or, or_true, false_or, or_false, ite_true, ite_false]; rw [if_pos c105]))), by rw [ht]; exact hP9, va_K.moved hW.alike hK, hD9⟩, hS.F ht⟩) hS.2.2 d_N_make_109
      · exact absurd (nI_le (a := 24800) (b := i) (by omega) (by omega)) c49
    | succ n ih =>
      intro i x5 H locs hi hr0 hP hD hS ls hl
      refine lv_iload hx hb d_N_make_44 (lv_at hl 0 rfl) ?_
      refine lv_sipush (v := 24800) hx hb d_N_make_46 (by decide) ?_
      refine lv_icmp_ge (tgt := 97) hx hb d_N_make_49 (by decide) (fun c49 => ?_) (fun c49 => ?_)
      · exact absurd c49 (nI_ge (a := i) (b := 24800) (by omega) (by omega))
      · refine lv_iload hx hb d_N_make_52 (lv_at hl 1 rfl) ?_
        refine lv_if_eq (tgt := 97) hx hb d_N_make_54 (by decide) (fun c54 => ?_) (fun c54 => ?_)
        · refine lv_aload_n hx hb d_N_make_97 rfl (lv_at hl 2 rfl) ?_
          refine nCalli (As := []) (rest := []) ⟨hx, hb, hml, hown, hts⟩ (c_N_freshRow l dC dI cI a N _ ) (cwV 0 hts (gV kml_N_73 kim_N_freshRow ksl_N_freshRow kin_N kcd_N_freshRow) rfl rfl rfl (by decide +kernel) ⟨Nat.le_of_ble_eq_true rfl, Nat.le_of_ble_eq_true rfl⟩) hP hK hD hS hA rfl hl.1 rfl (Nat.le_of_ble_eq_true rfl) d_N_make_98 ⟨Nat.zero_le _, Nat.zero_le _⟩ (fun H locs hP hD hS => ?_)
          refine lv_istore (lv' := [(5, .int ((j_freshRow N).2)), (6, .int (nI i)), (0, .ref (a 0)), (1, .int x1), (2, .int x2), (3, .int x3)]) hx hb d_N_make_101 hl (by decide) rfl (fun ls hl => ?_)
          refine lv_iload hx hb d_N_make_103 (lv_at hl 0 rfl) ?_
          refine lv_if_ne (tgt := 110) hx hb d_N_make_105 (by decide) (fun c105 => ?_) (fun c105 => ?_)
          · refine lv_aload_n hx hb d_N_make_110 rfl (lv_at hl 2 rfl) ?_
            refine lv_iload_n hx hb d_N_make_111 rfl (lv_at hl 4 rfl) ?_
            refine lv_iconst (v := 1) hx hb d_N_make_112 (by decide) ?_
            refine nCallv (As := [.int x2, .int 1]) (rest := []) ⟨hx, hb, hml, hown, hts⟩ (c_N_refer l dC dI cI a ((j_freshRow N).1) _ x2 1) (cwV 2 hts (gV kml_N_77 kim_N_refer ksl_N_refer kin_N kcd_N_refer) rfl rfl rfl (by decide +kernel) ⟨Nat.le_of_ble_eq_true rfl, Nat.le_of_ble_eq_true rfl⟩) hP hK hD hS hA rfl hl.1 rfl (Nat.le_of_ble_eq_true rfl) d_N_make_113 ⟨Nat.zero_le _, Nat.zero_le _⟩ (fun H locs hP hD hS => ?_)
            refine lv_aload_n hx hb d_N_make_116 rfl (lv_at hl 2 rfl) ?_
            refine lv_iload_n hx hb d_N_make_117 rfl (lv_at hl 5 rfl) ?_
            refine lv_iconst (v := 1) hx hb d_N_make_118 (by decide) ?_
            refine nCallv (As := [.int x3, .int 1]) (rest := []) ⟨hx, hb, hml, hown, hts⟩ (c_N_refer l dC dI cI a (j_refer ((j_freshRow N).1) x2 1) _ x3 1) (cwV 2 hts (gV kml_N_77 kim_N_refer ksl_N_refer kin_N kcd_N_refer) rfl rfl rfl (by decide +kernel) ⟨Nat.le_of_ble_eq_true rfl, Nat.le_of_ble_eq_true rfl⟩) hP hK hD hS hA rfl hl.1 rfl (Nat.le_of_ble_eq_true rfl) d_N_make_119 ⟨Nat.zero_le _, Nat.zero_le _⟩ (fun H locs hP hD hS => ?_)
            refine lv_aload_n hx hb d_N_make_122 rfl (lv_at hl 2 rfl) ?_
            refine lv_iload hx hb d_N_make_123 (lv_at hl 0 rfl) ?_
            refine lv_iload_n hx hb d_N_make_125 rfl (lv_at hl 3 rfl) ?_
            refine lv_iload_n hx hb d_N_make_126 rfl (lv_at hl 4 rfl) ?_
            refine lv_iload_n hx hb d_N_make_127 rfl (lv_at hl 5 rfl) ?_
            refine nCallv (As := [.int ((j_freshRow N).2), .int x1, .int x2, .int x3]) (rest := []) ⟨hx, hb, hml, hown, hts⟩ (c_N_link l dC dI cI a (j_refer (j_refer ((j_freshRow N).1) x2 1) x3 1) _ ((j_freshRow N).2) x1 x2 x3) (cwV 4 hts (gV kml_N_81 kim_N_link ksl_N_link kin_N kcd_N_link) rfl rfl rfl (by decide +kernel) ⟨Nat.le_of_ble_eq_true rfl, Nat.le_of_ble_eq_true rfl⟩) hP hK hD hS hA rfl hl.1 rfl (Nat.le_of_ble_eq_true rfl) d_N_make_128 ⟨Nat.zero_le _, Nat.zero_le _⟩ (fun H locs hP hD hS => ?_)
            refine lv_iload hx hb d_N_make_131 (lv_at hl 0 rfl) ?_
            have hP9 : va_P (dC, dI) cls0 (nW cI a ((j_make N x1 x2 x3).1)) _ := (show j_link (j_refer (j_refer ((j_freshRow N).1) x2 1) x3 1) ((j_freshRow N).2) x1 x2 x3 = (j_make N x1 x2 x3).1 from by rw [hr0]; (first | (simp only [j_findL, j_fresh2, c49, if_pos c54, c105, Int32.not_le.mp c49, if_true, if_false, not_true_eq_false, not_false_eq_true, true_and, and_true, false_and, and_false, true_or, or_true, false_or, or_false, ite_true, ite_false]; done) | (simp only [j_findL, j_fresh2, c49, c54, c105, Int32.not_le.mp c49, if_true, if_false, not_true_eq_false, not_false_eq_true, true_and, and_true, false_and, and_false, true_or, or_true, false_or, or_false, ite_true, ite_false]; done) | (simp only [j_findL, j_fresh2, c49, c105, Int32.not_le.mp c49, if_true, if_false, not_true_eq_false, not_false_eq_true, true_and, and_true, false_and, and_false, true_or, or_true, false_or, or_false, ite_true, ite_false]; rw [if_pos c54]))) ▸ hP
            have hD9 : va_D A (nW cI a ((j_make N x1 x2 x3).1)) := (show j_link (j_refer (j_refer ((j_freshRow N).1) x2 1) x3 1) ((j_freshRow N).2) x1 x2 x3 = (j_make N x1 x2 x3).1 from by rw [hr0]; (first | (simp only [j_findL, j_fresh2, c49, if_pos c54, c105, Int32.not_le.mp c49, if_true, if_false, not_true_eq_false, not_false_eq_true, true_and, and_true, false_and, and_false, true_or, or_true, false_or, or_false, ite_true, ite_false]; done) | (simp only [j_findL, j_fresh2, c49, c54, c105, Int32.not_le.mp c49, if_true, if_false, not_true_eq_false, not_false_eq_true, true_and, and_true, false_and, and_false, true_or, or_true, false_or, or_false, ite_true, ite_false]; done) | (simp only [j_findL, j_fresh2, c49, c105, Int32.not_le.mp c49, if_true, if_false, not_true_eq_false, not_false_eq_true, true_and, and_true, false_and, and_false, true_or, or_true, false_or, or_false, ite_true, ite_false]; rw [if_pos c54]))) ▸ hD
            exact W.iret (v := ((j_freshRow N).2)) hx hb hr (fun t ht hW => ⟨⟨(j_freshRow N).2, (), rfl, (show (j_freshRow N).2 = (j_make N x1 x2 x3).2 from by rw [hr0]; (first | (simp only [j_findL, j_fresh2, c49, if_pos c54, c105, Int32.not_le.mp c49, if_true, if_false, not_true_eq_false, not_false_eq_true, true_and, and_true, false_and, and_false, true_or, or_true, false_or, or_false, ite_true, ite_false]; done) | (simp only [j_findL, j_fresh2, c49, c54, c105, Int32.not_le.mp c49, if_true, if_false, not_true_eq_false, not_false_eq_true, true_and, and_true, false_and, and_false, true_or, or_true, false_or, or_false, ite_true, ite_false]; done) | (simp only [j_findL, j_fresh2, c49, c105, Int32.not_le.mp c49, if_true, if_false, not_true_eq_false, not_false_eq_true, true_and, and_true, false_and, and_false, true_or, or_true, false_or, or_false, ite_true, ite_false]; rw [if_pos c54]))), by rw [ht]; exact hP9, va_K.moved hW.alike hK, hD9⟩, hS.F ht⟩) hS.2.2 d_N_make_133
          · refine lv_iconst (v := 0) hx hb d_N_make_108 (by decide) ?_
            have hP9 : va_P (dC, dI) cls0 (nW cI a ((j_make N x1 x2 x3).1)) _ := (show (j_freshRow N).1 = (j_make N x1 x2 x3).1 from by rw [hr0]; (first | (simp only [j_findL, j_fresh2, c49, if_pos c54, if_pos c105, Int32.not_le.mp c49, if_true, if_false, not_true_eq_false, not_false_eq_true, true_and, and_true, false_and, and_false, true_or, or_true, false_or, or_false, ite_true, ite_false]; done) | (simp only [j_findL, j_fresh2, c49, c54, c105, Int32.not_le.mp c49, if_true, if_false, not_true_eq_false, not_false_eq_true, true_and, and_true, false_and, and_false, true_or, or_true, false_or, or_false, ite_true, ite_false]; done) | (simp only [j_findL, j_fresh2, c49, Int32.not_le.mp c49, if_true, if_false, not_true_eq_false, not_false_eq_true, true_and, and_true, false_and, and_false, true_or, or_true, false_or, or_false, ite_true, ite_false]; rw [if_pos c54, if_pos c105]))) ▸ hP
            have hD9 : va_D A (nW cI a ((j_make N x1 x2 x3).1)) := (show (j_freshRow N).1 = (j_make N x1 x2 x3).1 from by rw [hr0]; (first | (simp only [j_findL, j_fresh2, c49, if_pos c54, if_pos c105, Int32.not_le.mp c49, if_true, if_false, not_true_eq_false, not_false_eq_true, true_and, and_true, false_and, and_false, true_or, or_true, false_or, or_false, ite_true, ite_false]; done) | (simp only [j_findL, j_fresh2, c49, c54, c105, Int32.not_le.mp c49, if_true, if_false, not_true_eq_false, not_false_eq_true, true_and, and_true, false_and, and_false, true_or, or_true, false_or, or_false, ite_true, ite_false]; done) | (simp only [j_findL, j_fresh2, c49, Int32.not_le.mp c49, if_true, if_false, not_true_eq_false, not_false_eq_true, true_and, and_true, false_and, and_false, true_or, or_true, false_or, or_false, ite_true, ite_false]; rw [if_pos c54, if_pos c105]))) ▸ hD
            exact W.iret (v := 0) hx hb hr (fun t ht hW => ⟨⟨0, (), rfl, (show 0 = (j_make N x1 x2 x3).2 from by rw [hr0]; (first | (simp only [j_findL, j_fresh2, c49, if_pos c54, if_pos c105, Int32.not_le.mp c49, if_true, if_false, not_true_eq_false, not_false_eq_true, true_and, and_true, false_and, and_false, true_or, or_true, false_or, or_false, ite_true, ite_false]; done) | (simp only [j_findL, j_fresh2, c49, c54, c105, Int32.not_le.mp c49, if_true, if_false, not_true_eq_false, not_false_eq_true, true_and, and_true, false_and, and_false, true_or, or_true, false_or, or_false, ite_true, ite_false]; done) | (simp only [j_findL, j_fresh2, c49, Int32.not_le.mp c49, if_true, if_false, not_true_eq_false, not_false_eq_true, true_and, and_true, false_and, and_false, true_or, or_true, false_or, or_false, ite_true, ite_false]; rw [if_pos c54, if_pos c105]))), by rw [ht]; exact hP9, va_K.moved hW.alike hK, hD9⟩, hS.F ht⟩) hS.2.2 d_N_make_109
        · refine lv_aload_n hx hb d_N_make_57 rfl (lv_at hl 2 rfl) ?_
          refine lv_iload hx hb d_N_make_58 (lv_at hl 1 rfl) ?_
          refine lv_iconst (v := 1) hx hb d_N_make_60 (by decide) ?_
          refine nCallR (As := [.int x5, .int 1]) (rest := []) ⟨hx, hb, hml, hown, hts⟩ (c_N_get l dC dI cI a N x5 1) (cwV 2 hts (gV kml_N_46 kim_N_get ksl_N_get kin_N kcd_N_get) rfl rfl rfl (by decide +kernel) ⟨Nat.le_of_ble_eq_true rfl, Nat.le_of_ble_eq_true rfl⟩) hP hK rfl hl.1 rfl (Nat.le_of_ble_eq_true rfl) d_N_make_61 ⟨Nat.zero_le _, Nat.zero_le _⟩ ?_
          refine lv_iload_n hx hb d_N_make_64 rfl (lv_at hl 4 rfl) ?_
          refine lv_icmp_ne (tgt := 82) hx hb d_N_make_65 (by decide) (fun c65 => ?_) (fun c65 => ?_)
          · refine lv_aload_n hx hb d_N_make_82 rfl (lv_at hl 2 rfl) ?_
            refine lv_iload hx hb d_N_make_83 (lv_at hl 1 rfl) ?_
            refine lv_iconst (v := 3) hx hb d_N_make_85 (by decide) ?_
            refine nCallR (As := [.int x5, .int 3]) (rest := []) ⟨hx, hb, hml, hown, hts⟩ (c_N_get l dC dI cI a N x5 3) (cwV 2 hts (gV kml_N_46 kim_N_get ksl_N_get kin_N kcd_N_get) rfl rfl rfl (by decide +kernel) ⟨Nat.le_of_ble_eq_true rfl, Nat.le_of_ble_eq_true rfl⟩) hP hK rfl hl.1 rfl (Nat.le_of_ble_eq_true rfl) d_N_make_86 ⟨Nat.zero_le _, Nat.zero_le _⟩ ?_
            refine lv_istore (lv' := [(5, .int (j_get N x5 3)), (6, .int (nI i)), (0, .ref (a 0)), (1, .int x1), (2, .int x2), (3, .int x3)]) hx hb d_N_make_89 hl (by decide) rfl (fun ls hl => ?_)
            refine lv_iinc (v := ((nI i) + 1)) (lv' := [(6, .int ((nI i) + 1)), (5, .int (j_get N x5 3)), (0, .ref (a 0)), (1, .int x1), (2, .int x2), (3, .int x3)]) hx hb d_N_make_91 hl (k := 1) rfl rfl (by decide) rfl (fun ls hl => ?_)
            refine lv_goto (tgt := 44) hx hb d_N_make_94 (by decide) ?_
            rw [nI_1] at hl
            exact ih (i + 1) _ H locs (by omega) (by rw [hr0]; simp only [j_findL, c49, c54, c65, Int32.not_le.mp c49, if_true, if_false, not_true_eq_false, not_false_eq_true, true_and, and_true, false_and, and_false, true_or, or_true, false_or, or_false, ite_true, ite_false]) hP hD hS ls (lv_sub hl [0, 1, 2, 3, 4, 5] rfl)
          · refine lv_aload_n hx hb d_N_make_68 rfl (lv_at hl 2 rfl) ?_
            refine lv_iload hx hb d_N_make_69 (lv_at hl 1 rfl) ?_
            refine lv_iconst (v := 2) hx hb d_N_make_71 (by decide) ?_
            refine nCallR (As := [.int x5, .int 2]) (rest := []) ⟨hx, hb, hml, hown, hts⟩ (c_N_get l dC dI cI a N x5 2) (cwV 2 hts (gV kml_N_46 kim_N_get ksl_N_get kin_N kcd_N_get) rfl rfl rfl (by decide +kernel) ⟨Nat.le_of_ble_eq_true rfl, Nat.le_of_ble_eq_true rfl⟩) hP hK rfl hl.1 rfl (Nat.le_of_ble_eq_true rfl) d_N_make_72 ⟨Nat.zero_le _, Nat.zero_le _⟩ ?_
            refine lv_iload_n hx hb d_N_make_75 rfl (lv_at hl 5 rfl) ?_
            refine lv_icmp_ne (tgt := 82) hx hb d_N_make_76 (by decide) (fun c76 => ?_) (fun c76 => ?_)
            · refine lv_aload_n hx hb d_N_make_82 rfl (lv_at hl 2 rfl) ?_
              refine lv_iload hx hb d_N_make_83 (lv_at hl 1 rfl) ?_
              refine lv_iconst (v := 3) hx hb d_N_make_85 (by decide) ?_
              refine nCallR (As := [.int x5, .int 3]) (rest := []) ⟨hx, hb, hml, hown, hts⟩ (c_N_get l dC dI cI a N x5 3) (cwV 2 hts (gV kml_N_46 kim_N_get ksl_N_get kin_N kcd_N_get) rfl rfl rfl (by decide +kernel) ⟨Nat.le_of_ble_eq_true rfl, Nat.le_of_ble_eq_true rfl⟩) hP hK rfl hl.1 rfl (Nat.le_of_ble_eq_true rfl) d_N_make_86 ⟨Nat.zero_le _, Nat.zero_le _⟩ ?_
              refine lv_istore (lv' := [(5, .int (j_get N x5 3)), (6, .int (nI i)), (0, .ref (a 0)), (1, .int x1), (2, .int x2), (3, .int x3)]) hx hb d_N_make_89 hl (by decide) rfl (fun ls hl => ?_)
              refine lv_iinc (v := ((nI i) + 1)) (lv' := [(6, .int ((nI i) + 1)), (5, .int (j_get N x5 3)), (0, .ref (a 0)), (1, .int x1), (2, .int x2), (3, .int x3)]) hx hb d_N_make_91 hl (k := 1) rfl rfl (by decide) rfl (fun ls hl => ?_)
              refine lv_goto (tgt := 44) hx hb d_N_make_94 (by decide) ?_
              rw [nI_1] at hl
              exact ih (i + 1) _ H locs (by omega) (by rw [hr0]; (first | (simp only [j_findL, c49, c54, if_pos c65, c76, Int32.not_le.mp c49, if_true, if_false, not_true_eq_false, not_false_eq_true, true_and, and_true, false_and, and_false, true_or, or_true, false_or, or_false, ite_true, ite_false]; done) | (simp only [j_findL, c49, c54, c65, c76, Int32.not_le.mp c49, if_true, if_false, not_true_eq_false, not_false_eq_true, true_and, and_true, false_and, and_false, true_or, or_true, false_or, or_false, ite_true, ite_false]; done) | (simp only [j_findL, c49, c54, c76, Int32.not_le.mp c49, if_true, if_false, not_true_eq_false, not_false_eq_true, true_and, and_true, false_and, and_false, true_or, or_true, false_or, or_false, ite_true, ite_false]; rw [if_pos c65]))) hP hD hS ls (lv_sub hl [0, 1, 2, 3, 4, 5] rfl)
            · refine lv_iload hx hb d_N_make_79 (lv_at hl 1 rfl) ?_
              have hP9 : va_P (dC, dI) cls0 (nW cI a ((j_make N x1 x2 x3).1)) _ := (show N = (j_make N x1 x2 x3).1 from by rw [hr0]; (first | (simp only [j_findL, j_fresh2, c49, c54, if_pos c65, if_pos c76, Int32.not_le.mp c49, if_true, if_false, not_true_eq_false, not_false_eq_true, true_and, and_true, false_and, and_false, true_or, or_true, false_or, or_false, ite_true, ite_false]; done) | (simp only [j_findL, j_fresh2, c49, c54, c65, c76, Int32.not_le.mp c49, if_true, if_false, not_true_eq_false, not_false_eq_true, true_and, and_true, false_and, and_false, true_or, or_true, false_or, or_false, ite_true, ite_false]; done) | (simp only [j_findL, j_fresh2, c49, c54, Int32.not_le.mp c49, if_true, if_false, not_true_eq_false, not_false_eq_true, true_and, and_true, false_and, and_false, true_or, or_true, false_or, or_false, ite_true, ite_false]; rw [if_pos c65, if_pos c76]))) ▸ hP
              have hD9 : va_D A (nW cI a ((j_make N x1 x2 x3).1)) := (show N = (j_make N x1 x2 x3).1 from by rw [hr0]; (first | (simp only [j_findL, j_fresh2, c49, c54, if_pos c65, if_pos c76, Int32.not_le.mp c49, if_true, if_false, not_true_eq_false, not_false_eq_true, true_and, and_true, false_and, and_false, true_or, or_true, false_or, or_false, ite_true, ite_false]; done) | (simp only [j_findL, j_fresh2, c49, c54, c65, c76, Int32.not_le.mp c49, if_true, if_false, not_true_eq_false, not_false_eq_true, true_and, and_true, false_and, and_false, true_or, or_true, false_or, or_false, ite_true, ite_false]; done) | (simp only [j_findL, j_fresh2, c49, c54, Int32.not_le.mp c49, if_true, if_false, not_true_eq_false, not_false_eq_true, true_and, and_true, false_and, and_false, true_or, or_true, false_or, or_false, ite_true, ite_false]; rw [if_pos c65, if_pos c76]))) ▸ hD
              exact W.iret (v := x5) hx hb hr (fun t ht hW => ⟨⟨x5, (), rfl, (show x5 = (j_make N x1 x2 x3).2 from by rw [hr0]; (first | (simp only [j_findL, j_fresh2, c49, c54, if_pos c65, if_pos c76, Int32.not_le.mp c49, if_true, if_false, not_true_eq_false, not_false_eq_true, true_and, and_true, false_and, and_false, true_or, or_true, false_or, or_false, ite_true, ite_false]; done) | (simp only [j_findL, j_fresh2, c49, c54, c65, c76, Int32.not_le.mp c49, if_true, if_false, not_true_eq_false, not_false_eq_true, true_and, and_true, false_and, and_false, true_or, or_true, false_or, or_false, ite_true, ite_false]; done) | (simp only [j_findL, j_fresh2, c49, c54, Int32.not_le.mp c49, if_true, if_false, not_true_eq_false, not_false_eq_true, true_and, and_true, false_and, and_false, true_or, or_true, false_or, or_false, ite_true, ite_false]; rw [if_pos c65, if_pos c76]))), by rw [ht]; exact hP9, va_K.moved hW.alike hK, hD9⟩, hS.F ht⟩) hS.2.2 d_N_make_81
  refine lv_iload_n hx hb d_N_make_0 rfl (lv_at hl 2 rfl) ?_
  refine lv_iload_n hx hb d_N_make_1 rfl (lv_at hl 3 rfl) ?_
  refine lv_icmp_ne (tgt := 7) hx hb d_N_make_2 (by decide) (fun c2 => ?_) (fun c2 => ?_)
  · refine lv_iload_n hx hb d_N_make_7 rfl (lv_at hl 1 rfl) ?_
    refine lv_iload_n hx hb d_N_make_8 rfl (lv_at hl 2 rfl) ?_
    refine lv_iload_n hx hb d_N_make_9 rfl (lv_at hl 3 rfl) ?_
    refine nCallS (As := [.int x1, .int x2, .int x3]) (rest := []) ⟨hx, hb, hml, hown, hts⟩ (c_N_chainFor l x1 x2 x3) (va_cwS 3 hts (gS kml_N_69 kst_N_chainFor kin_N kcd_N_chainFor) rfl rfl rfl (by decide +kernel) ⟨Nat.le_of_ble_eq_true rfl, Nat.le_of_ble_eq_true rfl⟩) rfl hl.1 rfl (Nat.le_of_ble_eq_true rfl) d_N_make_10 ⟨Nat.zero_le _, Nat.zero_le _⟩ ?_
    refine lv_istore (lv' := [(4, .int (j_chainFor x1 x2 x3)), (0, .ref (a 0)), (1, .int x1), (2, .int x2), (3, .int x3)]) hx hb d_N_make_13 hl (by decide) rfl (fun ls hl => ?_)
    refine lv_iload hx hb d_N_make_15 (lv_at hl 0 rfl) ?_
    refine lv_if_lt (tgt := 30) hx hb d_N_make_17 (by decide) (fun c17 => ?_) (fun c17 => ?_)
    · refine lv_iconst (v := 0) hx hb d_N_make_30 (by decide) ?_
      have hP9 : va_P (dC, dI) cls0 (nW cI a ((j_make N x1 x2 x3).1)) _ := (show N = (j_make N x1 x2 x3).1 from by simp only [j_make, c2, c17, Int32.not_le.mpr c17, if_true, if_false, not_true_eq_false, not_false_eq_true, true_and, and_true, false_and, and_false, true_or, or_true, false_or, or_false, ite_true, ite_false]) ▸ hP
      have hD9 : va_D A (nW cI a ((j_make N x1 x2 x3).1)) := (show N = (j_make N x1 x2 x3).1 from by simp only [j_make, c2, c17, Int32.not_le.mpr c17, if_true, if_false, not_true_eq_false, not_false_eq_true, true_and, and_true, false_and, and_false, true_or, or_true, false_or, or_false, ite_true, ite_false]) ▸ hD
      exact W.iret (v := 0) hx hb hr (fun t ht hW => ⟨⟨0, (), rfl, (show 0 = (j_make N x1 x2 x3).2 from by simp only [j_make, c2, c17, Int32.not_le.mpr c17, if_true, if_false, not_true_eq_false, not_false_eq_true, true_and, and_true, false_and, and_false, true_or, or_true, false_or, or_false, ite_true, ite_false]), by rw [ht]; exact hP9, va_K.moved hW.alike hK, hD9⟩, hS.F ht⟩) hS.2.2 d_N_make_31
    · refine lv_iload hx hb d_N_make_20 (lv_at hl 0 rfl) ?_
      refine lv_aload_n hx hb d_N_make_22 rfl (lv_at hl 1 rfl) ?_
      refine va_get (D := (dC, dI)) (ci := 1) (v := .ref (a 2)) (C := R_N) (T := T_N) (N := 11) hx hb hts in_N hown hK hP 0 rfl rfl 1 (by decide) (hts _ kfl_N_25) (fun _ h9 => h9) rfl d_N_make_23 ?_
      refine va_alen (v := nI 768) hx hb hK hP 2 0 rfl rfl rfl d_N_make_26 ?_
      refine lv_icmp_lt (tgt := 32) hx hb d_N_make_27 (by decide) (fun c27 => ?_) (fun c27 => ?_)
      · refine lv_aload_n hx hb d_N_make_32 rfl (lv_at hl 1 rfl) ?_
        refine va_get (D := (dC, dI)) (ci := 1) (v := .ref (a 2)) (C := R_N) (T := T_N) (N := 11) hx hb hts in_N hown hK hP 0 rfl rfl 1 (by decide) (hts _ kfl_N_25) (fun _ h9 => h9) rfl d_N_make_33 ?_
        refine lv_iload hx hb d_N_make_36 (lv_at hl 0 rfl) ?_
        refine va_iald hx hb hK hP 2 0 rfl rfl (lt_of_in c17 (Int32.not_le.mpr c27) (by decide)) d_N_make_38 ?_
        refine lv_istore (lv' := [(5, .int (N 2 (j_chainFor x1 x2 x3).toNatClampNeg)), (4, .int (j_chainFor x1 x2 x3)), (0, .ref (a 0)), (1, .int x1), (2, .int x2), (3, .int x3)]) hx hb d_N_make_39 hl (by decide) rfl (fun ls hl => ?_)
        refine lv_iconst (v := 0) hx hb d_N_make_41 (by decide) ?_
        refine lv_istore (lv' := [(6, .int 0), (5, .int (N 2 (j_chainFor x1 x2 x3).toNatClampNeg)), (4, .int (j_chainFor x1 x2 x3)), (0, .ref (a 0)), (1, .int x1), (2, .int x2), (3, .int x3)]) hx hb d_N_make_42 hl (by decide) rfl (fun ls hl => ?_)
        exact loop 24800 0 _ s.heap [] rfl (by simp only [j_make, c2, c17, c27, Int32.not_lt.mp c17, Int32.not_le.mpr c27, if_true, if_false, not_true_eq_false, not_false_eq_true, true_and, and_true, false_and, and_false, true_or, or_true, false_or, or_false, ite_true, ite_false]) hP hD hS ls (lv_sub hl [0, 1, 3, 4, 5, 6] rfl)
      · refine lv_iconst (v := 0) hx hb d_N_make_30 (by decide) ?_
        have hP9 : va_P (dC, dI) cls0 (nW cI a ((j_make N x1 x2 x3).1)) _ := (show N = (j_make N x1 x2 x3).1 from by simp only [j_make, c2, c17, c27, Int32.not_lt.mp c17, Int32.not_lt.mp c27, if_true, if_false, not_true_eq_false, not_false_eq_true, true_and, and_true, false_and, and_false, true_or, or_true, false_or, or_false, ite_true, ite_false]) ▸ hP
        have hD9 : va_D A (nW cI a ((j_make N x1 x2 x3).1)) := (show N = (j_make N x1 x2 x3).1 from by simp only [j_make, c2, c17, c27, Int32.not_lt.mp c17, Int32.not_lt.mp c27, if_true, if_false, not_true_eq_false, not_false_eq_true, true_and, and_true, false_and, and_false, true_or, or_true, false_or, or_false, ite_true, ite_false]) ▸ hD
        exact W.iret (v := 0) hx hb hr (fun t ht hW => ⟨⟨0, (), rfl, (show 0 = (j_make N x1 x2 x3).2 from by simp only [j_make, c2, c17, c27, Int32.not_lt.mp c17, Int32.not_lt.mp c27, if_true, if_false, not_true_eq_false, not_false_eq_true, true_and, and_true, false_and, and_false, true_or, or_true, false_or, or_false, ite_true, ite_false]), by rw [ht]; exact hP9, va_K.moved hW.alike hK, hD9⟩, hS.F ht⟩) hS.2.2 d_N_make_31
  · refine lv_iload_n hx hb d_N_make_5 rfl (lv_at hl 2 rfl) ?_
    have hP9 : va_P (dC, dI) cls0 (nW cI a ((j_make N x1 x2 x3).1)) _ := (show N = (j_make N x1 x2 x3).1 from by (first | (simp only [j_make, if_pos c2, if_true, if_false, not_true_eq_false, not_false_eq_true, true_and, and_true, false_and, and_false, true_or, or_true, false_or, or_false, ite_true, ite_false]; done) | (simp only [j_make, c2, if_true, if_false, not_true_eq_false, not_false_eq_true, true_and, and_true, false_and, and_false, true_or, or_true, false_or, or_false, ite_true, ite_false]; done) | (simp only [j_make, if_true, if_false, not_true_eq_false, not_false_eq_true, true_and, and_true, false_and, and_false, true_or, or_true, false_or, or_false, ite_true, ite_false]; rw [if_pos c2]))) ▸ hP
    have hD9 : va_D A (nW cI a ((j_make N x1 x2 x3).1)) := (show N = (j_make N x1 x2 x3).1 from by (first | (simp only [j_make, if_pos c2, if_true, if_false, not_true_eq_false, not_false_eq_true, true_and, and_true, false_and, and_false, true_or, or_true, false_or, or_false, ite_true, ite_false]; done) | (simp only [j_make, c2, if_true, if_false, not_true_eq_false, not_false_eq_true, true_and, and_true, false_and, and_false, true_or, or_true, false_or, or_false, ite_true, ite_false]; done) | (simp only [j_make, if_true, if_false, not_true_eq_false, not_false_eq_true, true_and, and_true, false_and, and_false, true_or, or_true, false_or, or_false, ite_true, ite_false]; rw [if_pos c2]))) ▸ hD
    exact W.iret (v := x2) hx hb hr (fun t ht hW => ⟨⟨x2, (), rfl, (show x2 = (j_make N x1 x2 x3).2 from by (first | (simp only [j_make, if_pos c2, if_true, if_false, not_true_eq_false, not_false_eq_true, true_and, and_true, false_and, and_false, true_or, or_true, false_or, or_false, ite_true, ite_false]; done) | (simp only [j_make, c2, if_true, if_false, not_true_eq_false, not_false_eq_true, true_and, and_true, false_and, and_false, true_or, or_true, false_or, or_false, ite_true, ite_false]; done) | (simp only [j_make, if_true, if_false, not_true_eq_false, not_false_eq_true, true_and, and_true, false_and, and_false, true_or, or_true, false_or, or_false, ite_true, ite_false]; rw [if_pos c2]))), by rw [ht]; exact hP9, va_K.moved hW.alike hK, hD9⟩, hS.F ht⟩) hS.2.2 d_N_make_6

set_option maxHeartbeats 4000000 in
set_option maxRecDepth 100000 in
/-- N_needed -/
theorem c_N_needed (l : Launch) (dC : Nat → ClassId) (dI : Nat → Nat → Nat) (cI : ClassId) (a : Nat → Nat) (N : Mm) (sz : Nat) (x1 : Int32) : Met l y_N_needed (.code y_N_needed b_N_needed 7 (some .int) :: W0) ({ frames := 2, cells := 0, slots := 0, locals := 46 } : Room) (va_Pc [.ref (a 0), .int x1] (nM dC dI cI a N sz)) (va_Qi (fun (z : Int32) (_ : Unit) => z = (j_needed N x1).2) (fun _ t => nE dC dI cI a ((j_needed N x1).1) (va_A (nW cI a N) sz) t) (va_A (nW cI a N) sz)) 0 0 (va_A (nW cI a N) sz) := by
  refine Met.ofW (cc := b_N_needed) (maxL := 7) (ret := (some .int)) (by decide) rfl ?_
  intro p e s m args below meth c s₁ B hml hv
  obtain ⟨rfl, hsz, hP, hK, hD0⟩ := hv
  have hx := B.exec
  have hb := B.bytes
  have hr := B.returns
  have hts1 := atoms_spec (ws := .code y_N_needed b_N_needed 7 (some .int) :: W0) B.pre
  have hts : ∀ w ∈ W0, w.before _ s = true := fun w h => hts1 w (List.mem_cons_of_mem _ h)
  have hown : s.vm.findClass R_N = some m.cls := findClass_of_methodNamed B.named
  have hlocks := B.notSynchronized
  subst hsz
  have hD := hD0.self (sz := s.heap.size)
  generalize hAe : va_A (nW cI a N) s.heap.size = A at hD ⊢
  have hA : ∀ q : Nat, s.heap.size ≤ q → A q := fun q h => by rw [← hAe]; exact Or.inr h
  have hS : va_S A s.heap s.heap [] := va_S.rf
  have hP : va_P (dC, dI) cls0 (nW cI a N) s.heap := hP
  have hl := lv_entry ([.ref (a 0), .int x1]) (n := 7) (Nat.le_of_ble_eq_true rfl)
  rw [lg_entry_eq]
  generalize (lg_sl ([.ref (a 0), .int x1]) ++ List.replicate (7 - (lg_sl ([.ref (a 0), .int x1])).length) Slot.unset).toArray = ls at hl ⊢
  have hl : lv_has ls 7 [(0, .ref (a 0)), (1, .int x1)] := hl
  have loop : ∀ (n : Nat) (N1 : Mm) (i : Nat) (x2 x3 : Int32) (H : Heap) (locs : List Loc), i + n = 24800 → j_needed N x1 = j_neededL n N1 x2 x3 → va_P (dC, dI) cls0 (nW cI a N1) H → va_D A (nW cI a N1) → va_S A s.heap H locs → ∀ (ls : Array Slot), lv_has ls 7 [(4, .int (nI i)), (3, .int x3), (2, .int x2), (0, .ref (a 0))] → W p l e (headSpec (.code y_N_needed b_N_needed 7 (some .int) :: W0) ({ frames := 2, cells := 0, slots := 0, locals := 46 } : Room)).room s m ([.ref (a 0), .int x1] : List Value).toArray below meth c H locs 0 0 (MQ below (va_Qi (fun (z : Int32) (_ : Unit) => z = (j_needed N x1).2) (fun _ t => nE dC dI cI a ((j_needed N x1).1) A t) A) ([.ref (a 0), .int x1] : List Value).toArray s 0 0 A) (F0 m 7 ls []) := by
    intro n
    induction n with
    | zero =>
      intro N1 i x2 x3 H locs hi hr0 hP hD hS ls hl
      refine lv_iload hx hb d_N_needed_7 (lv_at hl 0 rfl) ?_
      refine lv_sipush (v := 24800) hx hb d_N_needed_9 (by decide) ?_
      refine lv_icmp_ge (tgt := 118) hx hb d_N_needed_12 (by decide) (fun c12 => ?_) (fun c12 => ?_)
      · refine lv_iload_n hx hb d_N_needed_118 rfl (lv_at hl 2 rfl) ?_
        have hP9 : va_P (dC, dI) cls0 (nW cI a ((j_needed N x1).1)) _ := (show N1 = (j_needed N x1).1 from by rw [hr0]; simp only [j_neededL, c12, Int32.not_lt.mpr c12, if_true, if_false, not_true_eq_false, not_false_eq_true, true_and, and_true, false_and, and_false, true_or, or_true, false_or, or_false, ite_true, ite_false]) ▸ hP
        have hD9 : va_D A (nW cI a ((j_needed N x1).1)) := (show N1 = (j_needed N x1).1 from by rw [hr0]; simp only [j_neededL, c12, Int32.not_lt.mpr c12, if_true, if_false, not_true_eq_false, not_false_eq_true, true_and, and_true, false_and, and_false, true_or, or_true, false_or, or_false, ite_true, ite_false]) ▸ hD
        exact W.iret (v := x2) hx hb hr (fun t ht hW => ⟨⟨x2, (), rfl, (show x2 = (j_needed N x1).2 from by rw [hr0]; simp only [j_neededL, c12, Int32.not_lt.mpr c12, if_true, if_false, not_true_eq_false, not_false_eq_true, true_and, and_true, false_and, and_false, true_or, or_true, false_or, or_false, ite_true, ite_false]), by rw [ht]; exact hP9, va_K.moved hW.alike hK, hD9⟩, hS.F ht⟩) hS.2.2 d_N_needed_119
      · exact absurd (nI_le (a := 24800) (b := i) (by omega) (by omega)) c12
    | succ n ih =>
      intro N1 i x2 x3 H locs hi hr0 hP hD hS ls hl
      refine lv_iload hx hb d_N_needed_7 (lv_at hl 0 rfl) ?_
      refine lv_sipush (v := 24800) hx hb d_N_needed_9 (by decide) ?_
      refine lv_icmp_ge (tgt := 118) hx hb d_N_needed_12 (by decide) (fun c12 => ?_) (fun c12 => ?_)
      · exact absurd c12 (nI_ge (a := i) (b := 24800) (by omega) (by omega))
      · refine lv_iload_n hx hb d_N_needed_15 rfl (lv_at hl 1 rfl) ?_
        refine lv_if_eq (tgt := 118) hx hb d_N_needed_16 (by decide) (fun c16 => ?_) (fun c16 => ?_)
        · refine lv_iload_n hx hb d_N_needed_118 rfl (lv_at hl 2 rfl) ?_
          have hP9 : va_P (dC, dI) cls0 (nW cI a ((j_needed N x1).1)) _ := (show N1 = (j_needed N x1).1 from by rw [hr0]; (first | (simp only [j_neededL, c12, if_pos c16, Int32.not_le.mp c12, if_true, if_false, not_true_eq_false, not_false_eq_true, true_and, and_true, false_and, and_false, true_or, or_true, false_or, or_false, ite_true, ite_false]; done) | (simp only [j_neededL, c12, c16, Int32.not_le.mp c12, if_true, if_false, not_true_eq_false, not_false_eq_true, true_and, and_true, false_and, and_false, true_or, or_true, false_or, or_false, ite_true, ite_false]; done) | (simp only [j_neededL, c12, Int32.not_le.mp c12, if_true, if_false, not_true_eq_false, not_false_eq_true, true_and, and_true, false_and, and_false, true_or, or_true, false_or, or_false, ite_true, ite_false]; rw [if_pos c16]))) ▸ hP
          have hD9 : va_D A (nW cI a ((j_needed N x1).1)) := (show N1 = (j_needed N x1).1 from by rw [hr0]; (first | (simp only [j_neededL, c12, if_pos c16, Int32.not_le.mp c12, if_true, if_false, not_true_eq_false, not_false_eq_true, true_and, and_true, false_and, and_false, true_or, or_true, false_or, or_false, ite_true, ite_false]; done) | (simp only [j_neededL, c12, c16, Int32.not_le.mp c12, if_true, if_false, not_true_eq_false, not_false_eq_true, true_and, and_true, false_and, and_false, true_or, or_true, false_or, or_false, ite_true, ite_false]; done) | (simp only [j_neededL, c12, Int32.not_le.mp c12, if_true, if_false, not_true_eq_false, not_false_eq_true, true_and, and_true, false_and, and_false, true_or, or_true, false_or, or_false, ite_true, ite_false]; rw [if_pos c16]))) ▸ hD
          exact W.iret (v := x2) hx hb hr (fun t ht hW => ⟨⟨x2, (), rfl, (show x2 = (j_needed N x1).2 from by rw [hr0]; (first | (simp only [j_neededL, c12, if_pos c16, Int32.not_le.mp c12, if_true, if_false, not_true_eq_false, not_false_eq_true, true_and, and_true, false_and, and_false, true_or, or_true, false_or, or_false, ite_true, ite_false]; done) | (simp only [j_neededL, c12, c16, Int32.not_le.mp c12, if_true, if_false, not_true_eq_false, not_false_eq_true, true_and, and_true, false_and, and_false, true_or, or_true, false_or, or_false, ite_true, ite_false]; done) | (simp only [j_neededL, c12, Int32.not_le.mp c12, if_true, if_false, not_true_eq_false, not_false_eq_true, true_and, and_true, false_and, and_false, true_or, or_true, false_or, or_false, ite_true, ite_false]; rw [if_pos c16]))), by rw [ht]; exact hP9, va_K.moved hW.alike hK, hD9⟩, hS.F ht⟩) hS.2.2 d_N_needed_119
        · refine lv_aload_n hx hb d_N_needed_19 rfl (lv_at hl 3 rfl) ?_
          refine lv_iload_n hx hb d_N_needed_20 rfl (lv_at hl 1 rfl) ?_
          refine lv_iconst (v := 3) hx hb d_N_needed_21 (by decide) ?_
          refine nCallR (As := [.int x3, .int 3]) (rest := []) ⟨hx, hb, hml, hown, hts⟩ (c_N_get l dC dI cI a N1 x3 3) (cwV 2 hts (gV kml_N_46 kim_N_get ksl_N_get kin_N kcd_N_get) rfl rfl rfl (by decide +kernel) ⟨Nat.le_of_ble_eq_true rfl, Nat.le_of_ble_eq_true rfl⟩) hP hK rfl hl.1 rfl (Nat.le_of_ble_eq_true rfl) d_N_needed_22 ⟨Nat.zero_le _, Nat.zero_le _⟩ ?_
          refine lv_istore (lv' := [(5, .int (j_get N1 x3 3)), (4, .int (nI i)), (3, .int x3), (2, .int x2), (0, .ref (a 0))]) hx hb d_N_needed_25 hl (by decide) rfl (fun ls hl => ?_)
          refine lv_aload_n hx hb d_N_needed_27 rfl (lv_at hl 4 rfl) ?_
          refine lv_iload_n hx hb d_N_needed_28 rfl (lv_at hl 2 rfl) ?_
          refine lv_iconst (v := 4) hx hb d_N_needed_29 (by decide) ?_
          refine nCallR (As := [.int x3, .int 4]) (rest := []) ⟨hx, hb, hml, hown, hts⟩ (c_N_get l dC dI cI a N1 x3 4) (cwV 2 hts (gV kml_N_46 kim_N_get ksl_N_get kin_N kcd_N_get) rfl rfl rfl (by decide +kernel) ⟨Nat.le_of_ble_eq_true rfl, Nat.le_of_ble_eq_true rfl⟩) hP hK rfl hl.1 rfl (Nat.le_of_ble_eq_true rfl) d_N_needed_30 ⟨Nat.zero_le _, Nat.zero_le _⟩ ?_
          refine lv_if_le (tgt := 48) hx hb d_N_needed_33 (by decide) (fun c33 => ?_) (fun c33 => ?_)
          · refine lv_aload_n hx hb d_N_needed_48 rfl (lv_at hl 4 rfl) ?_
            refine lv_iload_n hx hb d_N_needed_49 rfl (lv_at hl 2 rfl) ?_
            refine lv_iconst (v := 0) hx hb d_N_needed_50 (by decide) ?_
            refine nCallR (As := [.int x3, .int 0]) (rest := []) ⟨hx, hb, hml, hown, hts⟩ (c_N_get l dC dI cI a N1 x3 0) (cwV 2 hts (gV kml_N_46 kim_N_get ksl_N_get kin_N kcd_N_get) rfl rfl rfl (by decide +kernel) ⟨Nat.le_of_ble_eq_true rfl, Nat.le_of_ble_eq_true rfl⟩) hP hK rfl hl.1 rfl (Nat.le_of_ble_eq_true rfl) d_N_needed_51 ⟨Nat.zero_le _, Nat.zero_le _⟩ ?_
            refine lv_istore (lv' := [(6, .int (j_get N1 x3 0)), (5, .int (j_get N1 x3 3)), (4, .int (nI i)), (3, .int x3), (2, .int x2), (0, .ref (a 0))]) hx hb d_N_needed_54 hl (by decide) rfl (fun ls hl => ?_)
            refine lv_iload hx hb d_N_needed_56 (lv_at hl 0 rfl) ?_
            refine lv_if_lt (tgt := 82) hx hb d_N_needed_58 (by decide) (fun c58 => ?_) (fun c58 => ?_)
            · refine lv_aload_n hx hb d_N_needed_82 rfl (lv_at hl 5 rfl) ?_
              refine lv_aload_n hx hb d_N_needed_83 rfl (lv_at hl 5 rfl) ?_
              refine lv_iload_n hx hb d_N_needed_84 rfl (lv_at hl 3 rfl) ?_
              refine lv_iconst (v := 1) hx hb d_N_needed_85 (by decide) ?_
              refine nCallR (As := [.int x3, .int 1]) (rest := [.ref (a 0)]) ⟨hx, hb, hml, hown, hts⟩ (c_N_get l dC dI cI a N1 x3 1) (cwV 2 hts (gV kml_N_46 kim_N_get ksl_N_get kin_N kcd_N_get) rfl rfl rfl (by decide +kernel) ⟨Nat.le_of_ble_eq_true rfl, Nat.le_of_ble_eq_true rfl⟩) hP hK rfl hl.1 rfl (Nat.le_of_ble_eq_true rfl) d_N_needed_86 ⟨Nat.zero_le _, Nat.zero_le _⟩ ?_
              refine lv_iconst (v := -1) hx hb d_N_needed_89 (by decide) ?_
              refine nCallv (As := [.int (j_get N1 x3 1), .int (-1)]) (rest := []) ⟨hx, hb, hml, hown, hts⟩ (c_N_refer l dC dI cI a N1 _ (j_get N1 x3 1) (-1)) (cwV 2 hts (gV kml_N_77 kim_N_refer ksl_N_refer kin_N kcd_N_refer) rfl rfl rfl (by decide +kernel) ⟨Nat.le_of_ble_eq_true rfl, Nat.le_of_ble_eq_true rfl⟩) hP hK hD hS hA rfl hl.1 rfl (Nat.le_of_ble_eq_true rfl) d_N_needed_90 ⟨Nat.zero_le _, Nat.zero_le _⟩ (fun H locs hP hD hS => ?_)
              refine lv_aload_n hx hb d_N_needed_93 rfl (lv_at hl 5 rfl) ?_
              refine lv_aload_n hx hb d_N_needed_94 rfl (lv_at hl 5 rfl) ?_
              refine lv_iload_n hx hb d_N_needed_95 rfl (lv_at hl 3 rfl) ?_
              refine lv_iconst (v := 2) hx hb d_N_needed_96 (by decide) ?_
              refine nCallR (As := [.int x3, .int 2]) (rest := [.ref (a 0)]) ⟨hx, hb, hml, hown, hts⟩ (c_N_get l dC dI cI a (j_refer N1 (j_get N1 x3 1) (-1)) x3 2) (cwV 2 hts (gV kml_N_46 kim_N_get ksl_N_get kin_N kcd_N_get) rfl rfl rfl (by decide +kernel) ⟨Nat.le_of_ble_eq_true rfl, Nat.le_of_ble_eq_true rfl⟩) hP hK rfl hl.1 rfl (Nat.le_of_ble_eq_true rfl) d_N_needed_97 ⟨Nat.zero_le _, Nat.zero_le _⟩ ?_
              refine lv_iconst (v := -1) hx hb d_N_needed_100 (by decide) ?_
              refine nCallv (As := [.int (j_get (j_refer N1 (j_get N1 x3 1) (-1)) x3 2), .int (-1)]) (rest := []) ⟨hx, hb, hml, hown, hts⟩ (c_N_refer l dC dI cI a (j_refer N1 (j_get N1 x3 1) (-1)) _ (j_get (j_refer N1 (j_get N1 x3 1) (-1)) x3 2) (-1)) (cwV 2 hts (gV kml_N_77 kim_N_refer ksl_N_refer kin_N kcd_N_refer) rfl rfl rfl (by decide +kernel) ⟨Nat.le_of_ble_eq_true rfl, Nat.le_of_ble_eq_true rfl⟩) hP hK hD hS hA rfl hl.1 rfl (Nat.le_of_ble_eq_true rfl) d_N_needed_101 ⟨Nat.zero_le _, Nat.zero_le _⟩ (fun H locs hP hD hS => ?_)
              refine lv_aload_n hx hb d_N_needed_104 rfl (lv_at hl 5 rfl) ?_
              refine lv_iload_n hx hb d_N_needed_105 rfl (lv_at hl 3 rfl) ?_
              refine nCallv (As := [.int x3]) (rest := []) ⟨hx, hb, hml, hown, hts⟩ (c_N_giveBack l dC dI cI a (j_refer (j_refer N1 (j_get N1 x3 1) (-1)) (j_get (j_refer N1 (j_get N1 x3 1) (-1)) x3 2) (-1)) _ x3) (cwV 1 hts (gV kml_N_106 kim_N_giveBack ksl_N_giveBack kin_N kcd_N_giveBack) rfl rfl rfl (by decide +kernel) ⟨Nat.le_of_ble_eq_true rfl, Nat.le_of_ble_eq_true rfl⟩) hP hK hD hS hA rfl hl.1 rfl (Nat.le_of_ble_eq_true rfl) d_N_needed_106 ⟨Nat.zero_le _, Nat.zero_le _⟩ (fun H locs hP hD hS => ?_)
              refine lv_iload hx hb d_N_needed_109 (lv_at hl 1 rfl) ?_
              refine lv_istore_n (lv' := [(3, .int (j_get N1 x3 3)), (6, .int (j_get N1 x3 0)), (5, .int (j_get N1 x3 3)), (4, .int (nI i)), (2, .int x2), (0, .ref (a 0))]) hx hb d_N_needed_111 rfl hl (by decide) rfl (fun ls hl => ?_)
              refine lv_iinc (v := ((nI i) + 1)) (lv' := [(4, .int ((nI i) + 1)), (3, .int (j_get N1 x3 3)), (6, .int (j_get N1 x3 0)), (5, .int (j_get N1 x3 3)), (2, .int x2), (0, .ref (a 0))]) hx hb d_N_needed_112 hl (k := 3) rfl rfl (by decide) rfl (fun ls hl => ?_)
              refine lv_goto (tgt := 7) hx hb d_N_needed_115 (by decide) ?_
              rw [nI_1] at hl
              exact ih _ (i + 1) _ _ H locs (by omega) (by rw [hr0]; (first | (simp only [j_neededL, j_drop, j_dropHeld, j_dropKids, c12, c16, c33, c58, Int32.not_le.mp c12, Int32.not_lt.mpr c33, Int32.not_le.mpr c58, if_true, if_false, not_true_eq_false, not_false_eq_true, true_and, and_true, false_and, and_false, true_or, or_true, false_or, or_false, ite_true, ite_false]; done) | (simp only [j_neededL, j_drop, j_dropHeld, j_dropKids, c12, c16, c33, c58, Int32.not_le.mp c12, Int32.not_lt.mpr c33, Int32.not_le.mpr c58, if_true, if_false, not_true_eq_false, not_false_eq_true, true_and, and_true, false_and, and_false, true_or, or_true, false_or, or_false, ite_true, ite_false]; simp only [uq_0_1, uq_0_2, uq_0_3, uq_0_4, uq_0_5, uq_1_0, uq_1_2, uq_1_3, uq_1_4, uq_1_5, uq_2_0, uq_2_1, uq_2_3, uq_2_4, uq_2_5, uq_3_0, uq_3_1, uq_3_2, uq_3_4, uq_3_5, uq_4_0, uq_4_1, uq_4_2, uq_4_3, uq_4_5, uq_5_0, uq_5_1, uq_5_2, uq_5_3, uq_5_4, uf_0_0, uf_0_1, uf_0_2, uf_0_3, uf_0_4, uf_0_5, uf_1_0, uf_1_1, uf_1_2, uf_1_3, uf_1_4, uf_1_5, uf_2_0, uf_2_1, uf_2_2, uf_2_3, uf_2_4, uf_2_5, uf_3_0, uf_3_1, uf_3_2, uf_3_3, uf_3_4, uf_3_5, uf_4_0, uf_4_1, uf_4_2, uf_4_3, uf_4_4, uf_4_5, uf_5_0, uf_5_1, uf_5_2, uf_5_3, uf_5_4, uf_5_5, js_0, js_2, js_3, js_4, js_5]; done) | (simp only [j_neededL, j_drop, j_dropHeld, j_dropKids, uq_0_1, uq_0_2, uq_0_3, uq_0_4, uq_0_5, uq_1_0, uq_1_2, uq_1_3, uq_1_4, uq_1_5, uq_2_0, uq_2_1, uq_2_3, uq_2_4, uq_2_5, uq_3_0, uq_3_1, uq_3_2, uq_3_4, uq_3_5, uq_4_0, uq_4_1, uq_4_2, uq_4_3, uq_4_5, uq_5_0, uq_5_1, uq_5_2, uq_5_3, uq_5_4, uf_0_0, uf_0_1, uf_0_2, uf_0_3, uf_0_4, uf_0_5, uf_1_0, uf_1_1, uf_1_2, uf_1_3, uf_1_4, uf_1_5, uf_2_0, uf_2_1, uf_2_2, uf_2_3, uf_2_4, uf_2_5, uf_3_0, uf_3_1, uf_3_2, uf_3_3, uf_3_4, uf_3_5, uf_4_0, uf_4_1, uf_4_2, uf_4_3, uf_4_4, uf_4_5, uf_5_0, uf_5_1, uf_5_2, uf_5_3, uf_5_4, uf_5_5, js_0, js_2, js_3, js_4, js_5, c12, c16, c33, c58, Int32.not_le.mp c12, Int32.not_lt.mpr c33, Int32.not_le.mpr c58, if_true, if_false, not_true_eq_false, not_false_eq_true, true_and, and_true, false_and, and_false, true_or, or_true, false_or, or_false, ite_true, ite_false]; done))) hP hD hS ls (lv_sub hl [0, 1, 4, 5] rfl)
            · refine lv_iload hx hb d_N_needed_61 (lv_at hl 0 rfl) ?_
              refine lv_aload_n hx hb d_N_needed_63 rfl (lv_at hl 5 rfl) ?_
              refine va_get (D := (dC, dI)) (ci := 1) (v := .ref (a 3)) (C := R_N) (T := T_N) (N := 11) hx hb hts in_N hown hK hP 0 rfl rfl 2 (by decide) (hts _ kfl_N_28) (fun _ h9 => h9) rfl d_N_needed_64 ?_
              refine va_alen (v := nI 12) hx hb hK hP 3 0 rfl rfl rfl d_N_needed_67 ?_
              refine lv_icmp_ge (tgt := 82) hx hb d_N_needed_68 (by decide) (fun c68 => ?_) (fun c68 => ?_)
              · refine lv_aload_n hx hb d_N_needed_82 rfl (lv_at hl 5 rfl) ?_
                refine lv_aload_n hx hb d_N_needed_83 rfl (lv_at hl 5 rfl) ?_
                refine lv_iload_n hx hb d_N_needed_84 rfl (lv_at hl 3 rfl) ?_
                refine lv_iconst (v := 1) hx hb d_N_needed_85 (by decide) ?_
                refine nCallR (As := [.int x3, .int 1]) (rest := [.ref (a 0)]) ⟨hx, hb, hml, hown, hts⟩ (c_N_get l dC dI cI a N1 x3 1) (cwV 2 hts (gV kml_N_46 kim_N_get ksl_N_get kin_N kcd_N_get) rfl rfl rfl (by decide +kernel) ⟨Nat.le_of_ble_eq_true rfl, Nat.le_of_ble_eq_true rfl⟩) hP hK rfl hl.1 rfl (Nat.le_of_ble_eq_true rfl) d_N_needed_86 ⟨Nat.zero_le _, Nat.zero_le _⟩ ?_
                refine lv_iconst (v := -1) hx hb d_N_needed_89 (by decide) ?_
                refine nCallv (As := [.int (j_get N1 x3 1), .int (-1)]) (rest := []) ⟨hx, hb, hml, hown, hts⟩ (c_N_refer l dC dI cI a N1 _ (j_get N1 x3 1) (-1)) (cwV 2 hts (gV kml_N_77 kim_N_refer ksl_N_refer kin_N kcd_N_refer) rfl rfl rfl (by decide +kernel) ⟨Nat.le_of_ble_eq_true rfl, Nat.le_of_ble_eq_true rfl⟩) hP hK hD hS hA rfl hl.1 rfl (Nat.le_of_ble_eq_true rfl) d_N_needed_90 ⟨Nat.zero_le _, Nat.zero_le _⟩ (fun H locs hP hD hS => ?_)
                refine lv_aload_n hx hb d_N_needed_93 rfl (lv_at hl 5 rfl) ?_
                refine lv_aload_n hx hb d_N_needed_94 rfl (lv_at hl 5 rfl) ?_
                refine lv_iload_n hx hb d_N_needed_95 rfl (lv_at hl 3 rfl) ?_
                refine lv_iconst (v := 2) hx hb d_N_needed_96 (by decide) ?_
                refine nCallR (As := [.int x3, .int 2]) (rest := [.ref (a 0)]) ⟨hx, hb, hml, hown, hts⟩ (c_N_get l dC dI cI a (j_refer N1 (j_get N1 x3 1) (-1)) x3 2) (cwV 2 hts (gV kml_N_46 kim_N_get ksl_N_get kin_N kcd_N_get) rfl rfl rfl (by decide +kernel) ⟨Nat.le_of_ble_eq_true rfl, Nat.le_of_ble_eq_true rfl⟩) hP hK rfl hl.1 rfl (Nat.le_of_ble_eq_true rfl) d_N_needed_97 ⟨Nat.zero_le _, Nat.zero_le _⟩ ?_
                refine lv_iconst (v := -1) hx hb d_N_needed_100 (by decide) ?_
                refine nCallv (As := [.int (j_get (j_refer N1 (j_get N1 x3 1) (-1)) x3 2), .int (-1)]) (rest := []) ⟨hx, hb, hml, hown, hts⟩ (c_N_refer l dC dI cI a (j_refer N1 (j_get N1 x3 1) (-1)) _ (j_get (j_refer N1 (j_get N1 x3 1) (-1)) x3 2) (-1)) (cwV 2 hts (gV kml_N_77 kim_N_refer ksl_N_refer kin_N kcd_N_refer) rfl rfl rfl (by decide +kernel) ⟨Nat.le_of_ble_eq_true rfl, Nat.le_of_ble_eq_true rfl⟩) hP hK hD hS hA rfl hl.1 rfl (Nat.le_of_ble_eq_true rfl) d_N_needed_101 ⟨Nat.zero_le _, Nat.zero_le _⟩ (fun H locs hP hD hS => ?_)
                refine lv_aload_n hx hb d_N_needed_104 rfl (lv_at hl 5 rfl) ?_
                refine lv_iload_n hx hb d_N_needed_105 rfl (lv_at hl 3 rfl) ?_
                refine nCallv (As := [.int x3]) (rest := []) ⟨hx, hb, hml, hown, hts⟩ (c_N_giveBack l dC dI cI a (j_refer (j_refer N1 (j_get N1 x3 1) (-1)) (j_get (j_refer N1 (j_get N1 x3 1) (-1)) x3 2) (-1)) _ x3) (cwV 1 hts (gV kml_N_106 kim_N_giveBack ksl_N_giveBack kin_N kcd_N_giveBack) rfl rfl rfl (by decide +kernel) ⟨Nat.le_of_ble_eq_true rfl, Nat.le_of_ble_eq_true rfl⟩) hP hK hD hS hA rfl hl.1 rfl (Nat.le_of_ble_eq_true rfl) d_N_needed_106 ⟨Nat.zero_le _, Nat.zero_le _⟩ (fun H locs hP hD hS => ?_)
                refine lv_iload hx hb d_N_needed_109 (lv_at hl 1 rfl) ?_
                refine lv_istore_n (lv' := [(3, .int (j_get N1 x3 3)), (6, .int (j_get N1 x3 0)), (5, .int (j_get N1 x3 3)), (4, .int (nI i)), (2, .int x2), (0, .ref (a 0))]) hx hb d_N_needed_111 rfl hl (by decide) rfl (fun ls hl => ?_)
                refine lv_iinc (v := ((nI i) + 1)) (lv' := [(4, .int ((nI i) + 1)), (3, .int (j_get N1 x3 3)), (6, .int (j_get N1 x3 0)), (5, .int (j_get N1 x3 3)), (2, .int x2), (0, .ref (a 0))]) hx hb d_N_needed_112 hl (k := 3) rfl rfl (by decide) rfl (fun ls hl => ?_)
                refine lv_goto (tgt := 7) hx hb d_N_needed_115 (by decide) ?_
                rw [nI_1] at hl
                exact ih _ (i + 1) _ _ H locs (by omega) (by rw [hr0]; (first | (simp only [j_neededL, j_drop, j_dropHeld, j_dropKids, c12, c16, c33, c58, c68, Int32.not_le.mp c12, Int32.not_lt.mpr c33, Int32.not_lt.mp c58, Int32.not_lt.mpr c68, if_true, if_false, not_true_eq_false, not_false_eq_true, true_and, and_true, false_and, and_false, true_or, or_true, false_or, or_false, ite_true, ite_false]; done) | (simp only [j_neededL, j_drop, j_dropHeld, j_dropKids, c12, c16, c33, c58, c68, Int32.not_le.mp c12, Int32.not_lt.mpr c33, Int32.not_lt.mp c58, Int32.not_lt.mpr c68, if_true, if_false, not_true_eq_false, not_false_eq_true, true_and, and_true, false_and, and_false, true_or, or_true, false_or, or_false, ite_true, ite_false]; simp only [uq_0_1, uq_0_2, uq_0_3, uq_0_4, uq_0_5, uq_1_0, uq_1_2, uq_1_3, uq_1_4, uq_1_5, uq_2_0, uq_2_1, uq_2_3, uq_2_4, uq_2_5, uq_3_0, uq_3_1, uq_3_2, uq_3_4, uq_3_5, uq_4_0, uq_4_1, uq_4_2, uq_4_3, uq_4_5, uq_5_0, uq_5_1, uq_5_2, uq_5_3, uq_5_4, uf_0_0, uf_0_1, uf_0_2, uf_0_3, uf_0_4, uf_0_5, uf_1_0, uf_1_1, uf_1_2, uf_1_3, uf_1_4, uf_1_5, uf_2_0, uf_2_1, uf_2_2, uf_2_3, uf_2_4, uf_2_5, uf_3_0, uf_3_1, uf_3_2, uf_3_3, uf_3_4, uf_3_5, uf_4_0, uf_4_1, uf_4_2, uf_4_3, uf_4_4, uf_4_5, uf_5_0, uf_5_1, uf_5_2, uf_5_3, uf_5_4, uf_5_5, js_0, js_2, js_3, js_4, js_5]; done) | (simp only [j_neededL, j_drop, j_dropHeld, j_dropKids, uq_0_1, uq_0_2, uq_0_3, uq_0_4, uq_0_5, uq_1_0, uq_1_2, uq_1_3, uq_1_4, uq_1_5, uq_2_0, uq_2_1, uq_2_3, uq_2_4, uq_2_5, uq_3_0, uq_3_1, uq_3_2, uq_3_4, uq_3_5, uq_4_0, uq_4_1, uq_4_2, uq_4_3, uq_4_5, uq_5_0, uq_5_1, uq_5_2, uq_5_3, uq_5_4, uf_0_0, uf_0_1, uf_0_2, uf_0_3, uf_0_4, uf_0_5, uf_1_0, uf_1_1, uf_1_2, uf_1_3, uf_1_4, uf_1_5, uf_2_0, uf_2_1, uf_2_2, uf_2_3, uf_2_4, uf_2_5, uf_3_0, uf_3_1, uf_3_2, uf_3_3, uf_3_4, uf_3_5, uf_4_0, uf_4_1, uf_4_2, uf_4_3, uf_4_4, uf_4_5, uf_5_0, uf_5_1, uf_5_2, uf_5_3, uf_5_4, uf_5_5, js_0, js_2, js_3, js_4, js_5, c12, c16, c33, c58, c68, Int32.not_le.mp c12, Int32.not_lt.mpr c33, Int32.not_lt.mp c58, Int32.not_lt.mpr c68, if_true, if_false, not_true_eq_false, not_false_eq_true, true_and, and_true, false_and, and_false, true_or, or_true, false_or, or_false, ite_true, ite_false]; done))) hP hD hS ls (lv_sub hl [0, 1, 4, 5] rfl)
              · refine lv_aload_n hx hb d_N_needed_71 rfl (lv_at hl 5 rfl) ?_
                refine va_get (D := (dC, dI)) (ci := 1) (v := .ref (a 3)) (C := R_N) (T := T_N) (N := 11) hx hb hts in_N hown hK hP 0 rfl rfl 2 (by decide) (hts _ kfl_N_28) (fun _ h9 => h9) rfl d_N_needed_72 ?_
                refine lv_iload hx hb d_N_needed_75 (lv_at hl 0 rfl) ?_
                refine lv_dup2_11 hx hb d_N_needed_77 rfl rfl ?_
                refine va_iald hx hb hK hP 3 0 rfl rfl (lt_of_in c58 c68 (by decide)) d_N_needed_78 ?_
                refine lv_iconst (v := 1) hx hb d_N_needed_79 (by decide) ?_
                refine lv_isub hx hb d_N_needed_80 ?_
                refine nAst3 hx hb hK hP hD hS (lt_of_in c58 c68 (by decide)) d_N_needed_81 (fun H locs hP hD hS => ?_)
                refine lv_aload_n hx hb d_N_needed_82 rfl (lv_at hl 5 rfl) ?_
                refine lv_aload_n hx hb d_N_needed_83 rfl (lv_at hl 5 rfl) ?_
                refine lv_iload_n hx hb d_N_needed_84 rfl (lv_at hl 3 rfl) ?_
                refine lv_iconst (v := 1) hx hb d_N_needed_85 (by decide) ?_
                refine nCallR (As := [.int x3, .int 1]) (rest := [.ref (a 0)]) ⟨hx, hb, hml, hown, hts⟩ (c_N_get l dC dI cI a (up N1 3 (j_get N1 x3 0).toNatClampNeg ((N1 3 (j_get N1 x3 0).toNatClampNeg) - 1)) x3 1) (cwV 2 hts (gV kml_N_46 kim_N_get ksl_N_get kin_N kcd_N_get) rfl rfl rfl (by decide +kernel) ⟨Nat.le_of_ble_eq_true rfl, Nat.le_of_ble_eq_true rfl⟩) hP hK rfl hl.1 rfl (Nat.le_of_ble_eq_true rfl) d_N_needed_86 ⟨Nat.zero_le _, Nat.zero_le _⟩ ?_
                refine lv_iconst (v := -1) hx hb d_N_needed_89 (by decide) ?_
                refine nCallv (As := [.int (j_get (up N1 3 (j_get N1 x3 0).toNatClampNeg ((N1 3 (j_get N1 x3 0).toNatClampNeg) - 1)) x3 1), .int (-1)]) (rest := []) ⟨hx, hb, hml, hown, hts⟩ (c_N_refer l dC dI cI a (up N1 3 (j_get N1 x3 0).toNatClampNeg ((N1 3 (j_get N1 x3 0).toNatClampNeg) - 1)) _ (j_get (up N1 3 (j_get N1 x3 0).toNatClampNeg ((N1 3 (j_get N1 x3 0).toNatClampNeg) - 1)) x3 1) (-1)) (cwV 2 hts (gV kml_N_77 kim_N_refer ksl_N_refer kin_N kcd_N_refer) rfl rfl rfl (by decide +kernel) ⟨Nat.le_of_ble_eq_true rfl, Nat.le_of_ble_eq_true rfl⟩) hP hK hD hS hA rfl hl.1 rfl (Nat.le_of_ble_eq_true rfl) d_N_needed_90 ⟨Nat.zero_le _, Nat.zero_le _⟩ (fun H locs hP hD hS => ?_)
                refine lv_aload_n hx hb d_N_needed_93 rfl (lv_at hl 5 rfl) ?_
                refine lv_aload_n hx hb d_N_needed_94 rfl (lv_at hl 5 rfl) ?_
                refine lv_iload_n hx hb d_N_needed_95 rfl (lv_at hl 3 rfl) ?_
                refine lv_iconst (v := 2) hx hb d_N_needed_96 (by decide) ?_
                refine nCallR (As := [.int x3, .int 2]) (rest := [.ref (a 0)]) ⟨hx, hb, hml, hown, hts⟩ (c_N_get l dC dI cI a (j_refer (up N1 3 (j_get N1 x3 0).toNatClampNeg ((N1 3 (j_get N1 x3 0).toNatClampNeg) - 1)) (j_get (up N1 3 (j_get N1 x3 0).toNatClampNeg ((N1 3 (j_get N1 x3 0).toNatClampNeg) - 1)) x3 1) (-1)) x3 2) (cwV 2 hts (gV kml_N_46 kim_N_get ksl_N_get kin_N kcd_N_get) rfl rfl rfl (by decide +kernel) ⟨Nat.le_of_ble_eq_true rfl, Nat.le_of_ble_eq_true rfl⟩) hP hK rfl hl.1 rfl (Nat.le_of_ble_eq_true rfl) d_N_needed_97 ⟨Nat.zero_le _, Nat.zero_le _⟩ ?_
                refine lv_iconst (v := -1) hx hb d_N_needed_100 (by decide) ?_
                refine nCallv (As := [.int (j_get (j_refer (up N1 3 (j_get N1 x3 0).toNatClampNeg ((N1 3 (j_get N1 x3 0).toNatClampNeg) - 1)) (j_get (up N1 3 (j_get N1 x3 0).toNatClampNeg ((N1 3 (j_get N1 x3 0).toNatClampNeg) - 1)) x3 1) (-1)) x3 2), .int (-1)]) (rest := []) ⟨hx, hb, hml, hown, hts⟩ (c_N_refer l dC dI cI a (j_refer (up N1 3 (j_get N1 x3 0).toNatClampNeg ((N1 3 (j_get N1 x3 0).toNatClampNeg) - 1)) (j_get (up N1 3 (j_get N1 x3 0).toNatClampNeg ((N1 3 (j_get N1 x3 0).toNatClampNeg) - 1)) x3 1) (-1)) _ (j_get (j_refer (up N1 3 (j_get N1 x3 0).toNatClampNeg ((N1 3 (j_get N1 x3 0).toNatClampNeg) - 1)) (j_get (up N1 3 (j_get N1 x3 0).toNatClampNeg ((N1 3 (j_get N1 x3 0).toNatClampNeg) - 1)) x3 1) (-1)) x3 2) (-1)) (cwV 2 hts (gV kml_N_77 kim_N_refer ksl_N_refer kin_N kcd_N_refer) rfl rfl rfl (by decide +kernel) ⟨Nat.le_of_ble_eq_true rfl, Nat.le_of_ble_eq_true rfl⟩) hP hK hD hS hA rfl hl.1 rfl (Nat.le_of_ble_eq_true rfl) d_N_needed_101 ⟨Nat.zero_le _, Nat.zero_le _⟩ (fun H locs hP hD hS => ?_)
                refine lv_aload_n hx hb d_N_needed_104 rfl (lv_at hl 5 rfl) ?_
                refine lv_iload_n hx hb d_N_needed_105 rfl (lv_at hl 3 rfl) ?_
                refine nCallv (As := [.int x3]) (rest := []) ⟨hx, hb, hml, hown, hts⟩ (c_N_giveBack l dC dI cI a (j_refer (j_refer (up N1 3 (j_get N1 x3 0).toNatClampNeg ((N1 3 (j_get N1 x3 0).toNatClampNeg) - 1)) (j_get (up N1 3 (j_get N1 x3 0).toNatClampNeg ((N1 3 (j_get N1 x3 0).toNatClampNeg) - 1)) x3 1) (-1)) (j_get (j_refer (up N1 3 (j_get N1 x3 0).toNatClampNeg ((N1 3 (j_get N1 x3 0).toNatClampNeg) - 1)) (j_get (up N1 3 (j_get N1 x3 0).toNatClampNeg ((N1 3 (j_get N1 x3 0).toNatClampNeg) - 1)) x3 1) (-1)) x3 2) (-1)) _ x3) (cwV 1 hts (gV kml_N_106 kim_N_giveBack ksl_N_giveBack kin_N kcd_N_giveBack) rfl rfl rfl (by decide +kernel) ⟨Nat.le_of_ble_eq_true rfl, Nat.le_of_ble_eq_true rfl⟩) hP hK hD hS hA rfl hl.1 rfl (Nat.le_of_ble_eq_true rfl) d_N_needed_106 ⟨Nat.zero_le _, Nat.zero_le _⟩ (fun H locs hP hD hS => ?_)
                refine lv_iload hx hb d_N_needed_109 (lv_at hl 1 rfl) ?_
                refine lv_istore_n (lv' := [(3, .int (j_get N1 x3 3)), (6, .int (j_get N1 x3 0)), (5, .int (j_get N1 x3 3)), (4, .int (nI i)), (2, .int x2), (0, .ref (a 0))]) hx hb d_N_needed_111 rfl hl (by decide) rfl (fun ls hl => ?_)
                refine lv_iinc (v := ((nI i) + 1)) (lv' := [(4, .int ((nI i) + 1)), (3, .int (j_get N1 x3 3)), (6, .int (j_get N1 x3 0)), (5, .int (j_get N1 x3 3)), (2, .int x2), (0, .ref (a 0))]) hx hb d_N_needed_112 hl (k := 3) rfl rfl (by decide) rfl (fun ls hl => ?_)
                refine lv_goto (tgt := 7) hx hb d_N_needed_115 (by decide) ?_
                rw [nI_1] at hl
                exact ih _ (i + 1) _ _ H locs (by omega) (by rw [hr0]; (first | (simp only [j_neededL, j_drop, j_dropHeld, j_dropKids, c12, c16, c33, c58, c68, Int32.not_le.mp c12, Int32.not_lt.mpr c33, Int32.not_lt.mp c58, Int32.not_le.mp c68, if_true, if_false, not_true_eq_false, not_false_eq_true, true_and, and_true, false_and, and_false, true_or, or_true, false_or, or_false, ite_true, ite_false]; done) | (simp only [j_neededL, j_drop, j_dropHeld, j_dropKids, c12, c16, c33, c58, c68, Int32.not_le.mp c12, Int32.not_lt.mpr c33, Int32.not_lt.mp c58, Int32.not_le.mp c68, if_true, if_false, not_true_eq_false, not_false_eq_true, true_and, and_true, false_and, and_false, true_or, or_true, false_or, or_false, ite_true, ite_false]; simp only [uq_0_1, uq_0_2, uq_0_3, uq_0_4, uq_0_5, uq_1_0, uq_1_2, uq_1_3, uq_1_4, uq_1_5, uq_2_0, uq_2_1, uq_2_3, uq_2_4, uq_2_5, uq_3_0, uq_3_1, uq_3_2, uq_3_4, uq_3_5, uq_4_0, uq_4_1, uq_4_2, uq_4_3, uq_4_5, uq_5_0, uq_5_1, uq_5_2, uq_5_3, uq_5_4, uf_0_0, uf_0_1, uf_0_2, uf_0_3, uf_0_4, uf_0_5, uf_1_0, uf_1_1, uf_1_2, uf_1_3, uf_1_4, uf_1_5, uf_2_0, uf_2_1, uf_2_2, uf_2_3, uf_2_4, uf_2_5, uf_3_0, uf_3_1, uf_3_2, uf_3_3, uf_3_4, uf_3_5, uf_4_0, uf_4_1, uf_4_2, uf_4_3, uf_4_4, uf_4_5, uf_5_0, uf_5_1, uf_5_2, uf_5_3, uf_5_4, uf_5_5, js_0, js_2, js_3, js_4, js_5]; done) | (simp only [j_neededL, j_drop, j_dropHeld, j_dropKids, uq_0_1, uq_0_2, uq_0_3, uq_0_4, uq_0_5, uq_1_0, uq_1_2, uq_1_3, uq_1_4, uq_1_5, uq_2_0, uq_2_1, uq_2_3, uq_2_4, uq_2_5, uq_3_0, uq_3_1, uq_3_2, uq_3_4, uq_3_5, uq_4_0, uq_4_1, uq_4_2, uq_4_3, uq_4_5, uq_5_0, uq_5_1, uq_5_2, uq_5_3, uq_5_4, uf_0_0, uf_0_1, uf_0_2, uf_0_3, uf_0_4, uf_0_5, uf_1_0, uf_1_1, uf_1_2, uf_1_3, uf_1_4, uf_1_5, uf_2_0, uf_2_1, uf_2_2, uf_2_3, uf_2_4, uf_2_5, uf_3_0, uf_3_1, uf_3_2, uf_3_3, uf_3_4, uf_3_5, uf_4_0, uf_4_1, uf_4_2, uf_4_3, uf_4_4, uf_4_5, uf_5_0, uf_5_1, uf_5_2, uf_5_3, uf_5_4, uf_5_5, js_0, js_2, js_3, js_4, js_5, c12, c16, c33, c58, c68, Int32.not_le.mp c12, Int32.not_lt.mpr c33, Int32.not_lt.mp c58, Int32.not_le.mp c68, if_true, if_false, not_true_eq_false, not_false_eq_true, true_and, and_true, false_and, and_false, true_or, or_true, false_or, or_false, ite_true, ite_false]; done))) hP hD hS ls (lv_sub hl [0, 1, 4, 5] rfl)
          · refine lv_aload_n hx hb d_N_needed_36 rfl (lv_at hl 4 rfl) ?_
            refine lv_iload_n hx hb d_N_needed_37 rfl (lv_at hl 2 rfl) ?_
            refine lv_iconst (v := 3) hx hb d_N_needed_38 (by decide) ?_
            refine lv_iload_n hx hb d_N_needed_39 rfl (lv_at hl 3 rfl) ?_
            refine nCallv (As := [.int x3, .int 3, .int x2]) (rest := []) ⟨hx, hb, hml, hown, hts⟩ (c_N_set l dC dI cI a N1 _ x3 3 x2) (cwV 3 hts (gV kml_N_65 kim_N_set ksl_N_set kin_N kcd_N_set) rfl rfl rfl (by decide +kernel) ⟨Nat.le_of_ble_eq_true rfl, Nat.le_of_ble_eq_true rfl⟩) hP hK hD hS hA rfl hl.1 rfl (Nat.le_of_ble_eq_true rfl) d_N_needed_40 ⟨Nat.zero_le _, Nat.zero_le _⟩ (fun H locs hP hD hS => ?_)
            refine lv_iload_n hx hb d_N_needed_43 rfl (lv_at hl 2 rfl) ?_
            refine lv_istore_n (lv' := [(2, .int x3), (5, .int (j_get N1 x3 3)), (4, .int (nI i)), (3, .int x3), (0, .ref (a 0))]) hx hb d_N_needed_44 rfl hl (by decide) rfl (fun ls hl => ?_)
            refine lv_goto (tgt := 109) hx hb d_N_needed_45 (by decide) ?_
            refine lv_iload hx hb d_N_needed_109 (lv_at hl 1 rfl) ?_
            refine lv_istore_n (lv' := [(3, .int (j_get N1 x3 3)), (2, .int x3), (5, .int (j_get N1 x3 3)), (4, .int (nI i)), (0, .ref (a 0))]) hx hb d_N_needed_111 rfl hl (by decide) rfl (fun ls hl => ?_)
            refine lv_iinc (v := ((nI i) + 1)) (lv' := [(4, .int ((nI i) + 1)), (3, .int (j_get N1 x3 3)), (2, .int x3), (5, .int (j_get N1 x3 3)), (0, .ref (a 0))]) hx hb d_N_needed_112 hl (k := 3) rfl rfl (by decide) rfl (fun ls hl => ?_)
            refine lv_goto (tgt := 7) hx hb d_N_needed_115 (by decide) ?_
            rw [nI_1] at hl
            exact ih _ (i + 1) _ _ H locs (by omega) (by rw [hr0]; (first | (simp only [j_neededL, j_drop, j_dropHeld, j_dropKids, c12, c16, c33, Int32.not_le.mp c12, Int32.not_le.mp c33, if_true, if_false, not_true_eq_false, not_false_eq_true, true_and, and_true, false_and, and_false, true_or, or_true, false_or, or_false, ite_true, ite_false]; done) | (simp only [j_neededL, j_drop, j_dropHeld, j_dropKids, c12, c16, c33, Int32.not_le.mp c12, Int32.not_le.mp c33, if_true, if_false, not_true_eq_false, not_false_eq_true, true_and, and_true, false_and, and_false, true_or, or_true, false_or, or_false, ite_true, ite_false]; simp only [uq_0_1, uq_0_2, uq_0_3, uq_0_4, uq_0_5, uq_1_0, uq_1_2, uq_1_3, uq_1_4, uq_1_5, uq_2_0, uq_2_1, uq_2_3, uq_2_4, uq_2_5, uq_3_0, uq_3_1, uq_3_2, uq_3_4, uq_3_5, uq_4_0, uq_4_1, uq_4_2, uq_4_3, uq_4_5, uq_5_0, uq_5_1, uq_5_2, uq_5_3, uq_5_4, uf_0_0, uf_0_1, uf_0_2, uf_0_3, uf_0_4, uf_0_5, uf_1_0, uf_1_1, uf_1_2, uf_1_3, uf_1_4, uf_1_5, uf_2_0, uf_2_1, uf_2_2, uf_2_3, uf_2_4, uf_2_5, uf_3_0, uf_3_1, uf_3_2, uf_3_3, uf_3_4, uf_3_5, uf_4_0, uf_4_1, uf_4_2, uf_4_3, uf_4_4, uf_4_5, uf_5_0, uf_5_1, uf_5_2, uf_5_3, uf_5_4, uf_5_5, js_0, js_2, js_3, js_4, js_5]; done) | (simp only [j_neededL, j_drop, j_dropHeld, j_dropKids, uq_0_1, uq_0_2, uq_0_3, uq_0_4, uq_0_5, uq_1_0, uq_1_2, uq_1_3, uq_1_4, uq_1_5, uq_2_0, uq_2_1, uq_2_3, uq_2_4, uq_2_5, uq_3_0, uq_3_1, uq_3_2, uq_3_4, uq_3_5, uq_4_0, uq_4_1, uq_4_2, uq_4_3, uq_4_5, uq_5_0, uq_5_1, uq_5_2, uq_5_3, uq_5_4, uf_0_0, uf_0_1, uf_0_2, uf_0_3, uf_0_4, uf_0_5, uf_1_0, uf_1_1, uf_1_2, uf_1_3, uf_1_4, uf_1_5, uf_2_0, uf_2_1, uf_2_2, uf_2_3, uf_2_4, uf_2_5, uf_3_0, uf_3_1, uf_3_2, uf_3_3, uf_3_4, uf_3_5, uf_4_0, uf_4_1, uf_4_2, uf_4_3, uf_4_4, uf_4_5, uf_5_0, uf_5_1, uf_5_2, uf_5_3, uf_5_4, uf_5_5, js_0, js_2, js_3, js_4, js_5, c12, c16, c33, Int32.not_le.mp c12, Int32.not_le.mp c33, if_true, if_false, not_true_eq_false, not_false_eq_true, true_and, and_true, false_and, and_false, true_or, or_true, false_or, or_false, ite_true, ite_false]; done))) hP hD hS ls (lv_sub hl [0, 1, 2, 4] rfl)
  refine lv_iconst (v := 0) hx hb d_N_needed_0 (by decide) ?_
  refine lv_istore_n (lv' := [(2, .int 0), (0, .ref (a 0)), (1, .int x1)]) hx hb d_N_needed_1 rfl hl (by decide) rfl (fun ls hl => ?_)
  refine lv_iload_n hx hb d_N_needed_2 rfl (lv_at hl 2 rfl) ?_
  refine lv_istore_n (lv' := [(3, .int x1), (2, .int 0), (0, .ref (a 0)), (1, .int x1)]) hx hb d_N_needed_3 rfl hl (by decide) rfl (fun ls hl => ?_)
  refine lv_iconst (v := 0) hx hb d_N_needed_4 (by decide) ?_
  refine lv_istore (lv' := [(4, .int 0), (3, .int x1), (2, .int 0), (0, .ref (a 0)), (1, .int x1)]) hx hb d_N_needed_5 hl (by decide) rfl (fun ls hl => ?_)
  exact loop 24800 _ 0 _ _ s.heap [] rfl rfl hP hD hS ls (lv_sub hl [0, 1, 2, 3] rfl)

set_option maxHeartbeats 4000000 in
set_option maxRecDepth 100000 in
/-- N_release -/
theorem c_N_release (l : Launch) (dC : Nat → ClassId) (dI : Nat → Nat → Nat) (cI : ClassId) (a : Nat → Nat) (N : Mm) (sz : Nat) (x1 : Int32) : Met l y_N_release (.code y_N_release b_N_release 2 none :: W0) ({ frames := 2, cells := 0, slots := 0, locals := 49 } : Room) (va_Pc [.ref (a 0), .int x1] (nM dC dI cI a N sz)) (va_Qv (fun _ : Unit => True) (fun _ t => nE dC dI cI a (j_release N x1) (va_A (nW cI a N) sz) t) (va_A (nW cI a N) sz)) 0 0 (va_A (nW cI a N) sz) := by
  refine Met.ofW (cc := b_N_release) (maxL := 2) (ret := none) (by decide) rfl ?_
  intro p e s m args below meth c s₁ B hml hv
  obtain ⟨rfl, hsz, hP, hK, hD0⟩ := hv
  have hx := B.exec
  have hb := B.bytes
  have hr := B.returns
  have hts1 := atoms_spec (ws := .code y_N_release b_N_release 2 none :: W0) B.pre
  have hts : ∀ w ∈ W0, w.before _ s = true := fun w h => hts1 w (List.mem_cons_of_mem _ h)
  have hown : s.vm.findClass R_N = some m.cls := findClass_of_methodNamed B.named
  have hlocks := B.notSynchronized
  subst hsz
  have hD := hD0.self (sz := s.heap.size)
  generalize hAe : va_A (nW cI a N) s.heap.size = A at hD ⊢
  have hA : ∀ q : Nat, s.heap.size ≤ q → A q := fun q h => by rw [← hAe]; exact Or.inr h
  have hS : va_S A s.heap s.heap [] := va_S.rf
  have hP : va_P (dC, dI) cls0 (nW cI a N) s.heap := hP
  have hl := lv_entry ([.ref (a 0), .int x1]) (n := 2) (Nat.le_of_ble_eq_true rfl)
  rw [lg_entry_eq]
  generalize (lg_sl ([.ref (a 0), .int x1]) ++ List.replicate (2 - (lg_sl ([.ref (a 0), .int x1])).length) Slot.unset).toArray = ls at hl ⊢
  have hl : lv_has ls 2 [(0, .ref (a 0)), (1, .int x1)] := hl
  refine lv_aload_n hx hb d_N_release_0 rfl (lv_at hl 0 rfl) ?_
  refine lv_iload_n hx hb d_N_release_1 rfl (lv_at hl 1 rfl) ?_
  refine lv_iconst (v := -1) hx hb d_N_release_2 (by decide) ?_
  refine nCallv (As := [.int x1, .int (-1)]) (rest := []) ⟨hx, hb, hml, hown, hts⟩ (c_N_refer l dC dI cI a N _ x1 (-1)) (cwV 2 hts (gV kml_N_77 kim_N_refer ksl_N_refer kin_N kcd_N_refer) rfl rfl rfl (by decide +kernel) ⟨Nat.le_of_ble_eq_true rfl, Nat.le_of_ble_eq_true rfl⟩) hP hK hD hS hA rfl hl.1 rfl (Nat.le_of_ble_eq_true rfl) d_N_release_3 ⟨Nat.zero_le _, Nat.zero_le _⟩ (fun H locs hP hD hS => ?_)
  refine lv_iload_n hx hb d_N_release_6 rfl (lv_at hl 1 rfl) ?_
  refine lv_iconst (v := 1) hx hb d_N_release_7 (by decide) ?_
  refine lv_icmp_le (tgt := 52) hx hb d_N_release_8 (by decide) (fun c8 => ?_) (fun c8 => ?_)
  · have hP9 : va_P (dC, dI) cls0 (nW cI a (j_release N x1)) _ := (show j_refer N x1 (-1) = j_release N x1 from by simp only [j_release, j_dropKids, c8, Int32.not_lt.mpr c8, if_true, if_false, not_true_eq_false, not_false_eq_true, true_and, and_true, false_and, and_false, true_or, or_true, false_or, or_false, ite_true, ite_false]) ▸ hP
    have hD9 : va_D A (nW cI a (j_release N x1)) := (show j_refer N x1 (-1) = j_release N x1 from by simp only [j_release, j_dropKids, c8, Int32.not_lt.mpr c8, if_true, if_false, not_true_eq_false, not_false_eq_true, true_and, and_true, false_and, and_false, true_or, or_true, false_or, or_false, ite_true, ite_false]) ▸ hD
    exact W.vret hx hb hr (fun t ht hW => ⟨⟨(), rfl, trivial, by rw [ht]; exact hP9, va_K.moved hW.alike hK, hD9⟩, hS.F ht⟩) hS.2.2 d_N_release_52
  · refine lv_aload_n hx hb d_N_release_11 rfl (lv_at hl 0 rfl) ?_
    refine lv_iload_n hx hb d_N_release_12 rfl (lv_at hl 1 rfl) ?_
    refine lv_iconst (v := 4) hx hb d_N_release_13 (by decide) ?_
    refine nCallR (As := [.int x1, .int 4]) (rest := []) ⟨hx, hb, hml, hown, hts⟩ (c_N_get l dC dI cI a (j_refer N x1 (-1)) x1 4) (cwV 2 hts (gV kml_N_46 kim_N_get ksl_N_get kin_N kcd_N_get) rfl rfl rfl (by decide +kernel) ⟨Nat.le_of_ble_eq_true rfl, Nat.le_of_ble_eq_true rfl⟩) hP hK rfl hl.1 rfl (Nat.le_of_ble_eq_true rfl) d_N_release_14 ⟨Nat.zero_le _, Nat.zero_le _⟩ ?_
    refine lv_if_gt (tgt := 52) hx hb d_N_release_17 (by decide) (fun c17 => ?_) (fun c17 => ?_)
    · have hP9 : va_P (dC, dI) cls0 (nW cI a (j_release N x1)) _ := (show j_refer N x1 (-1) = j_release N x1 from by simp only [j_release, j_dropKids, c8, c17, Int32.not_le.mp c8, Int32.not_le.mpr c17, if_true, if_false, not_true_eq_false, not_false_eq_true, true_and, and_true, false_and, and_false, true_or, or_true, false_or, or_false, ite_true, ite_false]) ▸ hP
      have hD9 : va_D A (nW cI a (j_release N x1)) := (show j_refer N x1 (-1) = j_release N x1 from by simp only [j_release, j_dropKids, c8, c17, Int32.not_le.mp c8, Int32.not_le.mpr c17, if_true, if_false, not_true_eq_false, not_false_eq_true, true_and, and_true, false_and, and_false, true_or, or_true, false_or, or_false, ite_true, ite_false]) ▸ hD
      exact W.vret hx hb hr (fun t ht hW => ⟨⟨(), rfl, trivial, by rw [ht]; exact hP9, va_K.moved hW.alike hK, hD9⟩, hS.F ht⟩) hS.2.2 d_N_release_52
    · refine lv_aload_n hx hb d_N_release_20 rfl (lv_at hl 0 rfl) ?_
      refine lv_iload_n hx hb d_N_release_21 rfl (lv_at hl 1 rfl) ?_
      refine nCallv (As := [.int x1]) (rest := []) ⟨hx, hb, hml, hown, hts⟩ (c_N_unlink l dC dI cI a (j_refer N x1 (-1)) _ x1) (cwV 1 hts (gV kml_N_130 kim_N_unlink ksl_N_unlink kin_N kcd_N_unlink) rfl rfl rfl (by decide +kernel) ⟨Nat.le_of_ble_eq_true rfl, Nat.le_of_ble_eq_true rfl⟩) hP hK hD hS hA rfl hl.1 rfl (Nat.le_of_ble_eq_true rfl) d_N_release_22 ⟨Nat.zero_le _, Nat.zero_le _⟩ (fun H locs hP hD hS => ?_)
      refine lv_aload_n hx hb d_N_release_25 rfl (lv_at hl 0 rfl) ?_
      refine lv_aload_n hx hb d_N_release_26 rfl (lv_at hl 0 rfl) ?_
      refine lv_iload_n hx hb d_N_release_27 rfl (lv_at hl 1 rfl) ?_
      refine lv_iconst (v := 1) hx hb d_N_release_28 (by decide) ?_
      refine nCallR (As := [.int x1, .int 1]) (rest := [.ref (a 0)]) ⟨hx, hb, hml, hown, hts⟩ (c_N_get l dC dI cI a (j_unlink (j_refer N x1 (-1)) x1) x1 1) (cwV 2 hts (gV kml_N_46 kim_N_get ksl_N_get kin_N kcd_N_get) rfl rfl rfl (by decide +kernel) ⟨Nat.le_of_ble_eq_true rfl, Nat.le_of_ble_eq_true rfl⟩) hP hK rfl hl.1 rfl (Nat.le_of_ble_eq_true rfl) d_N_release_29 ⟨Nat.zero_le _, Nat.zero_le _⟩ ?_
      refine lv_iconst (v := -1) hx hb d_N_release_32 (by decide) ?_
      refine nCallv (As := [.int (j_get (j_unlink (j_refer N x1 (-1)) x1) x1 1), .int (-1)]) (rest := []) ⟨hx, hb, hml, hown, hts⟩ (c_N_refer l dC dI cI a (j_unlink (j_refer N x1 (-1)) x1) _ (j_get (j_unlink (j_refer N x1 (-1)) x1) x1 1) (-1)) (cwV 2 hts (gV kml_N_77 kim_N_refer ksl_N_refer kin_N kcd_N_refer) rfl rfl rfl (by decide +kernel) ⟨Nat.le_of_ble_eq_true rfl, Nat.le_of_ble_eq_true rfl⟩) hP hK hD hS hA rfl hl.1 rfl (Nat.le_of_ble_eq_true rfl) d_N_release_33 ⟨Nat.zero_le _, Nat.zero_le _⟩ (fun H locs hP hD hS => ?_)
      refine lv_aload_n hx hb d_N_release_36 rfl (lv_at hl 0 rfl) ?_
      refine lv_aload_n hx hb d_N_release_37 rfl (lv_at hl 0 rfl) ?_
      refine lv_iload_n hx hb d_N_release_38 rfl (lv_at hl 1 rfl) ?_
      refine lv_iconst (v := 2) hx hb d_N_release_39 (by decide) ?_
      refine nCallR (As := [.int x1, .int 2]) (rest := [.ref (a 0)]) ⟨hx, hb, hml, hown, hts⟩ (c_N_get l dC dI cI a (j_refer (j_unlink (j_refer N x1 (-1)) x1) (j_get (j_unlink (j_refer N x1 (-1)) x1) x1 1) (-1)) x1 2) (cwV 2 hts (gV kml_N_46 kim_N_get ksl_N_get kin_N kcd_N_get) rfl rfl rfl (by decide +kernel) ⟨Nat.le_of_ble_eq_true rfl, Nat.le_of_ble_eq_true rfl⟩) hP hK rfl hl.1 rfl (Nat.le_of_ble_eq_true rfl) d_N_release_40 ⟨Nat.zero_le _, Nat.zero_le _⟩ ?_
      refine lv_iconst (v := -1) hx hb d_N_release_43 (by decide) ?_
      refine nCallv (As := [.int (j_get (j_refer (j_unlink (j_refer N x1 (-1)) x1) (j_get (j_unlink (j_refer N x1 (-1)) x1) x1 1) (-1)) x1 2), .int (-1)]) (rest := []) ⟨hx, hb, hml, hown, hts⟩ (c_N_refer l dC dI cI a (j_refer (j_unlink (j_refer N x1 (-1)) x1) (j_get (j_unlink (j_refer N x1 (-1)) x1) x1 1) (-1)) _ (j_get (j_refer (j_unlink (j_refer N x1 (-1)) x1) (j_get (j_unlink (j_refer N x1 (-1)) x1) x1 1) (-1)) x1 2) (-1)) (cwV 2 hts (gV kml_N_77 kim_N_refer ksl_N_refer kin_N kcd_N_refer) rfl rfl rfl (by decide +kernel) ⟨Nat.le_of_ble_eq_true rfl, Nat.le_of_ble_eq_true rfl⟩) hP hK hD hS hA rfl hl.1 rfl (Nat.le_of_ble_eq_true rfl) d_N_release_44 ⟨Nat.zero_le _, Nat.zero_le _⟩ (fun H locs hP hD hS => ?_)
      refine lv_aload_n hx hb d_N_release_47 rfl (lv_at hl 0 rfl) ?_
      refine lv_iload_n hx hb d_N_release_48 rfl (lv_at hl 1 rfl) ?_
      refine nCallv (As := [.int x1]) (rest := []) ⟨hx, hb, hml, hown, hts⟩ (c_N_giveBack l dC dI cI a (j_refer (j_refer (j_unlink (j_refer N x1 (-1)) x1) (j_get (j_unlink (j_refer N x1 (-1)) x1) x1 1) (-1)) (j_get (j_refer (j_unlink (j_refer N x1 (-1)) x1) (j_get (j_unlink (j_refer N x1 (-1)) x1) x1 1) (-1)) x1 2) (-1)) _ x1) (cwV 1 hts (gV kml_N_106 kim_N_giveBack ksl_N_giveBack kin_N kcd_N_giveBack) rfl rfl rfl (by decide +kernel) ⟨Nat.le_of_ble_eq_true rfl, Nat.le_of_ble_eq_true rfl⟩) hP hK hD hS hA rfl hl.1 rfl (Nat.le_of_ble_eq_true rfl) d_N_release_49 ⟨Nat.zero_le _, Nat.zero_le _⟩ (fun H locs hP hD hS => ?_)
      have hP9 : va_P (dC, dI) cls0 (nW cI a (j_release N x1)) _ := (show j_giveBack (j_refer (j_refer (j_unlink (j_refer N x1 (-1)) x1) (j_get (j_unlink (j_refer N x1 (-1)) x1) x1 1) (-1)) (j_get (j_refer (j_unlink (j_refer N x1 (-1)) x1) (j_get (j_unlink (j_refer N x1 (-1)) x1) x1 1) (-1)) x1 2) (-1)) x1 = j_release N x1 from by simp only [j_release, j_dropKids, c8, c17, Int32.not_le.mp c8, Int32.not_lt.mp c17, if_true, if_false, not_true_eq_false, not_false_eq_true, true_and, and_true, false_and, and_false, true_or, or_true, false_or, or_false, ite_true, ite_false]) ▸ hP
      have hD9 : va_D A (nW cI a (j_release N x1)) := (show j_giveBack (j_refer (j_refer (j_unlink (j_refer N x1 (-1)) x1) (j_get (j_unlink (j_refer N x1 (-1)) x1) x1 1) (-1)) (j_get (j_refer (j_unlink (j_refer N x1 (-1)) x1) (j_get (j_unlink (j_refer N x1 (-1)) x1) x1 1) (-1)) x1 2) (-1)) x1 = j_release N x1 from by simp only [j_release, j_dropKids, c8, c17, Int32.not_le.mp c8, Int32.not_lt.mp c17, if_true, if_false, not_true_eq_false, not_false_eq_true, true_and, and_true, false_and, and_false, true_or, or_true, false_or, or_false, ite_true, ite_false]) ▸ hD
      exact W.vret hx hb hr (fun t ht hW => ⟨⟨(), rfl, trivial, by rw [ht]; exact hP9, va_K.moved hW.alike hK, hD9⟩, hS.F ht⟩) hS.2.2 d_N_release_52

set_option maxHeartbeats 4000000 in
set_option maxRecDepth 100000 in
/-- N_rewrite -/
theorem c_N_rewrite (l : Launch) (dC : Nat → ClassId) (dI : Nat → Nat → Nat) (cI : ClassId) (a : Nat → Nat) (N : Mm) (sz : Nat) (x1 x2 x3 : Int32) : Met l y_N_rewrite (.code y_N_rewrite b_N_rewrite 8 none :: W0) ({ frames := 3, cells := 0, slots := 0, locals := 75 } : Room) (va_Pc [.ref (a 0), .int x1, .int x2, .int x3] (nM dC dI cI a N sz)) (va_Qv (fun _ : Unit => True) (fun _ t => nE dC dI cI a (j_rewrite N x1 x2 x3) (va_A (nW cI a N) sz) t) (va_A (nW cI a N) sz)) 0 0 (va_A (nW cI a N) sz) := by
  refine Met.ofW (cc := b_N_rewrite) (maxL := 8) (ret := none) (by decide) rfl ?_
  intro p e s m args below meth c s₁ B hml hv
  obtain ⟨rfl, hsz, hP, hK, hD0⟩ := hv
  have hx := B.exec
  have hb := B.bytes
  have hr := B.returns
  have hts1 := atoms_spec (ws := .code y_N_rewrite b_N_rewrite 8 none :: W0) B.pre
  have hts : ∀ w ∈ W0, w.before _ s = true := fun w h => hts1 w (List.mem_cons_of_mem _ h)
  have hown : s.vm.findClass R_N = some m.cls := findClass_of_methodNamed B.named
  have hlocks := B.notSynchronized
  subst hsz
  have hD := hD0.self (sz := s.heap.size)
  generalize hAe : va_A (nW cI a N) s.heap.size = A at hD ⊢
  have hA : ∀ q : Nat, s.heap.size ≤ q → A q := fun q h => by rw [← hAe]; exact Or.inr h
  have hS : va_S A s.heap s.heap [] := va_S.rf
  have hP : va_P (dC, dI) cls0 (nW cI a N) s.heap := hP
  have hl := lv_entry ([.ref (a 0), .int x1, .int x2, .int x3]) (n := 8) (Nat.le_of_ble_eq_true rfl)
  rw [lg_entry_eq]
  generalize (lg_sl ([.ref (a 0), .int x1, .int x2, .int x3]) ++ List.replicate (8 - (lg_sl ([.ref (a 0), .int x1, .int x2, .int x3])).length) Slot.unset).toArray = ls at hl ⊢
  have hl : lv_has ls 8 [(0, .ref (a 0)), (1, .int x1), (2, .int x2), (3, .int x3)] := hl
  refine lv_aload_n hx hb d_N_rewrite_0 rfl (lv_at hl 0 rfl) ?_
  refine lv_iload_n hx hb d_N_rewrite_1 rfl (lv_at hl 1 rfl) ?_
  refine lv_iconst (v := 1) hx hb d_N_rewrite_2 (by decide) ?_
  refine nCallR (As := [.int x1, .int 1]) (rest := []) ⟨hx, hb, hml, hown, hts⟩ (c_N_get l dC dI cI a N x1 1) (cwV 2 hts (gV kml_N_46 kim_N_get ksl_N_get kin_N kcd_N_get) rfl rfl rfl (by decide +kernel) ⟨Nat.le_of_ble_eq_true rfl, Nat.le_of_ble_eq_true rfl⟩) hP hK rfl hl.1 rfl (Nat.le_of_ble_eq_true rfl) d_N_rewrite_3 ⟨Nat.zero_le _, Nat.zero_le _⟩ ?_
  refine lv_istore (lv' := [(4, .int (j_get N x1 1)), (0, .ref (a 0)), (1, .int x1), (2, .int x2), (3, .int x3)]) hx hb d_N_rewrite_6 hl (by decide) rfl (fun ls hl => ?_)
  refine lv_aload_n hx hb d_N_rewrite_8 rfl (lv_at hl 1 rfl) ?_
  refine lv_iload_n hx hb d_N_rewrite_9 rfl (lv_at hl 2 rfl) ?_
  refine lv_iconst (v := 2) hx hb d_N_rewrite_10 (by decide) ?_
  refine nCallR (As := [.int x1, .int 2]) (rest := []) ⟨hx, hb, hml, hown, hts⟩ (c_N_get l dC dI cI a N x1 2) (cwV 2 hts (gV kml_N_46 kim_N_get ksl_N_get kin_N kcd_N_get) rfl rfl rfl (by decide +kernel) ⟨Nat.le_of_ble_eq_true rfl, Nat.le_of_ble_eq_true rfl⟩) hP hK rfl hl.1 rfl (Nat.le_of_ble_eq_true rfl) d_N_rewrite_11 ⟨Nat.zero_le _, Nat.zero_le _⟩ ?_
  refine lv_istore (lv' := [(5, .int (j_get N x1 2)), (4, .int (j_get N x1 1)), (0, .ref (a 0)), (1, .int x1), (2, .int x2), (3, .int x3)]) hx hb d_N_rewrite_14 hl (by decide) rfl (fun ls hl => ?_)
  refine lv_aload_n hx hb d_N_rewrite_16 rfl (lv_at hl 2 rfl) ?_
  refine lv_iload_n hx hb d_N_rewrite_17 rfl (lv_at hl 4 rfl) ?_
  refine lv_aload_n hx hb d_N_rewrite_18 rfl (lv_at hl 2 rfl) ?_
  refine lv_iload hx hb d_N_rewrite_19 (lv_at hl 1 rfl) ?_
  refine lv_iload_n hx hb d_N_rewrite_21 rfl (lv_at hl 5 rfl) ?_
  refine nCallR (As := [.int (j_get N x1 1), .int x3]) (rest := [.int x2, .ref (a 0)]) ⟨hx, hb, hml, hown, hts⟩ (c_N_lowFor l dC dI cI a N (j_get N x1 1) x3) (cwV 2 hts (gV kml_N_118 kim_N_lowFor ksl_N_lowFor kin_N kcd_N_lowFor) rfl rfl rfl (by decide +kernel) ⟨Nat.le_of_ble_eq_true rfl, Nat.le_of_ble_eq_true rfl⟩) hP hK rfl hl.1 rfl (Nat.le_of_ble_eq_true rfl) d_N_rewrite_22 ⟨Nat.zero_le _, Nat.zero_le _⟩ ?_
  refine lv_aload_n hx hb d_N_rewrite_25 rfl (lv_at hl 2 rfl) ?_
  refine lv_iload hx hb d_N_rewrite_26 (lv_at hl 0 rfl) ?_
  refine lv_iload_n hx hb d_N_rewrite_28 rfl (lv_at hl 5 rfl) ?_
  refine nCallR (As := [.int (j_get N x1 2), .int x3]) (rest := [.int (j_lowFor N (j_get N x1 1) x3), .int x2, .ref (a 0)]) ⟨hx, hb, hml, hown, hts⟩ (c_N_lowFor l dC dI cI a N (j_get N x1 2) x3) (cwV 2 hts (gV kml_N_118 kim_N_lowFor ksl_N_lowFor kin_N kcd_N_lowFor) rfl rfl rfl (by decide +kernel) ⟨Nat.le_of_ble_eq_true rfl, Nat.le_of_ble_eq_true rfl⟩) hP hK rfl hl.1 rfl (Nat.le_of_ble_eq_true rfl) d_N_rewrite_29 ⟨Nat.zero_le _, Nat.zero_le _⟩ ?_
  refine nCalli (As := [.int x2, .int (j_lowFor N (j_get N x1 1) x3), .int (j_lowFor N (j_get N x1 2) x3)]) (rest := []) ⟨hx, hb, hml, hown, hts⟩ (c_N_make l dC dI cI a N _ x2 (j_lowFor N (j_get N x1 1) x3) (j_lowFor N (j_get N x1 2) x3)) (cwV 3 hts (gV kml_N_121 kim_N_make ksl_N_make kin_N kcd_N_make) rfl rfl rfl (by decide +kernel) ⟨Nat.le_of_ble_eq_true rfl, Nat.le_of_ble_eq_true rfl⟩) hP hK hD hS hA rfl hl.1 rfl (Nat.le_of_ble_eq_true rfl) d_N_rewrite_32 ⟨Nat.zero_le _, Nat.zero_le _⟩ (fun H locs hP hD hS => ?_)
  refine lv_istore (lv' := [(6, .int ((j_make N x2 (j_lowFor N (j_get N x1 1) x3) (j_lowFor N (j_get N x1 2) x3)).2)), (5, .int (j_get N x1 2)), (4, .int (j_get N x1 1)), (0, .ref (a 0)), (1, .int x1), (2, .int x2), (3, .int x3)]) hx hb d_N_rewrite_35 hl (by decide) rfl (fun ls hl => ?_)
  refine lv_aload_n hx hb d_N_rewrite_37 rfl (lv_at hl 3 rfl) ?_
  refine lv_iload_n hx hb d_N_rewrite_38 rfl (lv_at hl 5 rfl) ?_
  refine lv_aload_n hx hb d_N_rewrite_39 rfl (lv_at hl 3 rfl) ?_
  refine lv_iload hx hb d_N_rewrite_40 (lv_at hl 2 rfl) ?_
  refine lv_iload_n hx hb d_N_rewrite_42 rfl (lv_at hl 6 rfl) ?_
  refine nCallR (As := [.int (j_get N x1 1), .int x3]) (rest := [.int x2, .ref (a 0)]) ⟨hx, hb, hml, hown, hts⟩ (c_N_highFor l dC dI cI a ((j_make N x2 (j_lowFor N (j_get N x1 1) x3) (j_lowFor N (j_get N x1 2) x3)).1) (j_get N x1 1) x3) (cwV 2 hts (gV kml_N_124 kim_N_highFor ksl_N_highFor kin_N kcd_N_highFor) rfl rfl rfl (by decide +kernel) ⟨Nat.le_of_ble_eq_true rfl, Nat.le_of_ble_eq_true rfl⟩) hP hK rfl hl.1 rfl (Nat.le_of_ble_eq_true rfl) d_N_rewrite_43 ⟨Nat.zero_le _, Nat.zero_le _⟩ ?_
  refine lv_aload_n hx hb d_N_rewrite_46 rfl (lv_at hl 3 rfl) ?_
  refine lv_iload hx hb d_N_rewrite_47 (lv_at hl 1 rfl) ?_
  refine lv_iload_n hx hb d_N_rewrite_49 rfl (lv_at hl 6 rfl) ?_
  refine nCallR (As := [.int (j_get N x1 2), .int x3]) (rest := [.int (j_highFor ((j_make N x2 (j_lowFor N (j_get N x1 1) x3) (j_lowFor N (j_get N x1 2) x3)).1) (j_get N x1 1) x3), .int x2, .ref (a 0)]) ⟨hx, hb, hml, hown, hts⟩ (c_N_highFor l dC dI cI a ((j_make N x2 (j_lowFor N (j_get N x1 1) x3) (j_lowFor N (j_get N x1 2) x3)).1) (j_get N x1 2) x3) (cwV 2 hts (gV kml_N_124 kim_N_highFor ksl_N_highFor kin_N kcd_N_highFor) rfl rfl rfl (by decide +kernel) ⟨Nat.le_of_ble_eq_true rfl, Nat.le_of_ble_eq_true rfl⟩) hP hK rfl hl.1 rfl (Nat.le_of_ble_eq_true rfl) d_N_rewrite_50 ⟨Nat.zero_le _, Nat.zero_le _⟩ ?_
  refine nCalli (As := [.int x2, .int (j_highFor ((j_make N x2 (j_lowFor N (j_get N x1 1) x3) (j_lowFor N (j_get N x1 2) x3)).1) (j_get N x1 1) x3), .int (j_highFor ((j_make N x2 (j_lowFor N (j_get N x1 1) x3) (j_lowFor N (j_get N x1 2) x3)).1) (j_get N x1 2) x3)]) (rest := []) ⟨hx, hb, hml, hown, hts⟩ (c_N_make l dC dI cI a ((j_make N x2 (j_lowFor N (j_get N x1 1) x3) (j_lowFor N (j_get N x1 2) x3)).1) _ x2 (j_highFor ((j_make N x2 (j_lowFor N (j_get N x1 1) x3) (j_lowFor N (j_get N x1 2) x3)).1) (j_get N x1 1) x3) (j_highFor ((j_make N x2 (j_lowFor N (j_get N x1 1) x3) (j_lowFor N (j_get N x1 2) x3)).1) (j_get N x1 2) x3)) (cwV 3 hts (gV kml_N_121 kim_N_make ksl_N_make kin_N kcd_N_make) rfl rfl rfl (by decide +kernel) ⟨Nat.le_of_ble_eq_true rfl, Nat.le_of_ble_eq_true rfl⟩) hP hK hD hS hA rfl hl.1 rfl (Nat.le_of_ble_eq_true rfl) d_N_rewrite_53 ⟨Nat.zero_le _, Nat.zero_le _⟩ (fun H locs hP hD hS => ?_)
  refine lv_istore (lv' := [(7, .int ((j_make ((j_make N x2 (j_lowFor N (j_get N x1 1) x3) (j_lowFor N (j_get N x1 2) x3)).1) x2 (j_highFor ((j_make N x2 (j_lowFor N (j_get N x1 1) x3) (j_lowFor N (j_get N x1 2) x3)).1) (j_get N x1 1) x3) (j_highFor ((j_make N x2 (j_lowFor N (j_get N x1 1) x3) (j_lowFor N (j_get N x1 2) x3)).1) (j_get N x1 2) x3)).2)), (6, .int ((j_make N x2 (j_lowFor N (j_get N x1 1) x3) (j_lowFor N (j_get N x1 2) x3)).2)), (5, .int (j_get N x1 2)), (4, .int (j_get N x1 1)), (0, .ref (a 0)), (1, .int x1), (2, .int x2), (3, .int x3)]) hx hb d_N_rewrite_56 hl (by decide) rfl (fun ls hl => ?_)
  refine lv_aload_n hx hb d_N_rewrite_58 rfl (lv_at hl 4 rfl) ?_
  refine lv_iload hx hb d_N_rewrite_59 (lv_at hl 1 rfl) ?_
  refine lv_iconst (v := 1) hx hb d_N_rewrite_61 (by decide) ?_
  refine nCallv (As := [.int ((j_make N x2 (j_lowFor N (j_get N x1 1) x3) (j_lowFor N (j_get N x1 2) x3)).2), .int 1]) (rest := []) ⟨hx, hb, hml, hown, hts⟩ (c_N_refer l dC dI cI a ((j_make ((j_make N x2 (j_lowFor N (j_get N x1 1) x3) (j_lowFor N (j_get N x1 2) x3)).1) x2 (j_highFor ((j_make N x2 (j_lowFor N (j_get N x1 1) x3) (j_lowFor N (j_get N x1 2) x3)).1) (j_get N x1 1) x3) (j_highFor ((j_make N x2 (j_lowFor N (j_get N x1 1) x3) (j_lowFor N (j_get N x1 2) x3)).1) (j_get N x1 2) x3)).1) _ ((j_make N x2 (j_lowFor N (j_get N x1 1) x3) (j_lowFor N (j_get N x1 2) x3)).2) 1) (cwV 2 hts (gV kml_N_77 kim_N_refer ksl_N_refer kin_N kcd_N_refer) rfl rfl rfl (by decide +kernel) ⟨Nat.le_of_ble_eq_true rfl, Nat.le_of_ble_eq_true rfl⟩) hP hK hD hS hA rfl hl.1 rfl (Nat.le_of_ble_eq_true rfl) d_N_rewrite_62 ⟨Nat.zero_le _, Nat.zero_le _⟩ (fun H locs hP hD hS => ?_)
  refine lv_aload_n hx hb d_N_rewrite_65 rfl (lv_at hl 4 rfl) ?_
  refine lv_iload hx hb d_N_rewrite_66 (lv_at hl 0 rfl) ?_
  refine lv_iconst (v := 1) hx hb d_N_rewrite_68 (by decide) ?_
  refine nCallv (As := [.int ((j_make ((j_make N x2 (j_lowFor N (j_get N x1 1) x3) (j_lowFor N (j_get N x1 2) x3)).1) x2 (j_highFor ((j_make N x2 (j_lowFor N (j_get N x1 1) x3) (j_lowFor N (j_get N x1 2) x3)).1) (j_get N x1 1) x3) (j_highFor ((j_make N x2 (j_lowFor N (j_get N x1 1) x3) (j_lowFor N (j_get N x1 2) x3)).1) (j_get N x1 2) x3)).2), .int 1]) (rest := []) ⟨hx, hb, hml, hown, hts⟩ (c_N_refer l dC dI cI a (j_refer ((j_make ((j_make N x2 (j_lowFor N (j_get N x1 1) x3) (j_lowFor N (j_get N x1 2) x3)).1) x2 (j_highFor ((j_make N x2 (j_lowFor N (j_get N x1 1) x3) (j_lowFor N (j_get N x1 2) x3)).1) (j_get N x1 1) x3) (j_highFor ((j_make N x2 (j_lowFor N (j_get N x1 1) x3) (j_lowFor N (j_get N x1 2) x3)).1) (j_get N x1 2) x3)).1) ((j_make N x2 (j_lowFor N (j_get N x1 1) x3) (j_lowFor N (j_get N x1 2) x3)).2) 1) _ ((j_make ((j_make N x2 (j_lowFor N (j_get N x1 1) x3) (j_lowFor N (j_get N x1 2) x3)).1) x2 (j_highFor ((j_make N x2 (j_lowFor N (j_get N x1 1) x3) (j_lowFor N (j_get N x1 2) x3)).1) (j_get N x1 1) x3) (j_highFor ((j_make N x2 (j_lowFor N (j_get N x1 1) x3) (j_lowFor N (j_get N x1 2) x3)).1) (j_get N x1 2) x3)).2) 1) (cwV 2 hts (gV kml_N_77 kim_N_refer ksl_N_refer kin_N kcd_N_refer) rfl rfl rfl (by decide +kernel) ⟨Nat.le_of_ble_eq_true rfl, Nat.le_of_ble_eq_true rfl⟩) hP hK hD hS hA rfl hl.1 rfl (Nat.le_of_ble_eq_true rfl) d_N_rewrite_69 ⟨Nat.zero_le _, Nat.zero_le _⟩ (fun H locs hP hD hS => ?_)
  refine lv_aload_n hx hb d_N_rewrite_72 rfl (lv_at hl 4 rfl) ?_
  refine lv_iload_n hx hb d_N_rewrite_73 rfl (lv_at hl 5 rfl) ?_
  refine lv_iload_n hx hb d_N_rewrite_74 rfl (lv_at hl 7 rfl) ?_
  refine lv_iload hx hb d_N_rewrite_75 (lv_at hl 1 rfl) ?_
  refine lv_iload hx hb d_N_rewrite_77 (lv_at hl 0 rfl) ?_
  refine nCallv (As := [.int x1, .int x3, .int ((j_make N x2 (j_lowFor N (j_get N x1 1) x3) (j_lowFor N (j_get N x1 2) x3)).2), .int ((j_make ((j_make N x2 (j_lowFor N (j_get N x1 1) x3) (j_lowFor N (j_get N x1 2) x3)).1) x2 (j_highFor ((j_make N x2 (j_lowFor N (j_get N x1 1) x3) (j_lowFor N (j_get N x1 2) x3)).1) (j_get N x1 1) x3) (j_highFor ((j_make N x2 (j_lowFor N (j_get N x1 1) x3) (j_lowFor N (j_get N x1 2) x3)).1) (j_get N x1 2) x3)).2)]) (rest := []) ⟨hx, hb, hml, hown, hts⟩ (c_N_link l dC dI cI a (j_refer (j_refer ((j_make ((j_make N x2 (j_lowFor N (j_get N x1 1) x3) (j_lowFor N (j_get N x1 2) x3)).1) x2 (j_highFor ((j_make N x2 (j_lowFor N (j_get N x1 1) x3) (j_lowFor N (j_get N x1 2) x3)).1) (j_get N x1 1) x3) (j_highFor ((j_make N x2 (j_lowFor N (j_get N x1 1) x3) (j_lowFor N (j_get N x1 2) x3)).1) (j_get N x1 2) x3)).1) ((j_make N x2 (j_lowFor N (j_get N x1 1) x3) (j_lowFor N (j_get N x1 2) x3)).2) 1) ((j_make ((j_make N x2 (j_lowFor N (j_get N x1 1) x3) (j_lowFor N (j_get N x1 2) x3)).1) x2 (j_highFor ((j_make N x2 (j_lowFor N (j_get N x1 1) x3) (j_lowFor N (j_get N x1 2) x3)).1) (j_get N x1 1) x3) (j_highFor ((j_make N x2 (j_lowFor N (j_get N x1 1) x3) (j_lowFor N (j_get N x1 2) x3)).1) (j_get N x1 2) x3)).2) 1) _ x1 x3 ((j_make N x2 (j_lowFor N (j_get N x1 1) x3) (j_lowFor N (j_get N x1 2) x3)).2) ((j_make ((j_make N x2 (j_lowFor N (j_get N x1 1) x3) (j_lowFor N (j_get N x1 2) x3)).1) x2 (j_highFor ((j_make N x2 (j_lowFor N (j_get N x1 1) x3) (j_lowFor N (j_get N x1 2) x3)).1) (j_get N x1 1) x3) (j_highFor ((j_make N x2 (j_lowFor N (j_get N x1 1) x3) (j_lowFor N (j_get N x1 2) x3)).1) (j_get N x1 2) x3)).2)) (cwV 4 hts (gV kml_N_81 kim_N_link ksl_N_link kin_N kcd_N_link) rfl rfl rfl (by decide +kernel) ⟨Nat.le_of_ble_eq_true rfl, Nat.le_of_ble_eq_true rfl⟩) hP hK hD hS hA rfl hl.1 rfl (Nat.le_of_ble_eq_true rfl) d_N_rewrite_79 ⟨Nat.zero_le _, Nat.zero_le _⟩ (fun H locs hP hD hS => ?_)
  refine lv_aload_n hx hb d_N_rewrite_82 rfl (lv_at hl 4 rfl) ?_
  refine lv_iload hx hb d_N_rewrite_83 (lv_at hl 3 rfl) ?_
  refine nCallv (As := [.int (j_get N x1 1)]) (rest := []) ⟨hx, hb, hml, hown, hts⟩ (c_N_release l dC dI cI a (j_link (j_refer (j_refer ((j_make ((j_make N x2 (j_lowFor N (j_get N x1 1) x3) (j_lowFor N (j_get N x1 2) x3)).1) x2 (j_highFor ((j_make N x2 (j_lowFor N (j_get N x1 1) x3) (j_lowFor N (j_get N x1 2) x3)).1) (j_get N x1 1) x3) (j_highFor ((j_make N x2 (j_lowFor N (j_get N x1 1) x3) (j_lowFor N (j_get N x1 2) x3)).1) (j_get N x1 2) x3)).1) ((j_make N x2 (j_lowFor N (j_get N x1 1) x3) (j_lowFor N (j_get N x1 2) x3)).2) 1) ((j_make ((j_make N x2 (j_lowFor N (j_get N x1 1) x3) (j_lowFor N (j_get N x1 2) x3)).1) x2 (j_highFor ((j_make N x2 (j_lowFor N (j_get N x1 1) x3) (j_lowFor N (j_get N x1 2) x3)).1) (j_get N x1 1) x3) (j_highFor ((j_make N x2 (j_lowFor N (j_get N x1 1) x3) (j_lowFor N (j_get N x1 2) x3)).1) (j_get N x1 2) x3)).2) 1) x1 x3 ((j_make N x2 (j_lowFor N (j_get N x1 1) x3) (j_lowFor N (j_get N x1 2) x3)).2) ((j_make ((j_make N x2 (j_lowFor N (j_get N x1 1) x3) (j_lowFor N (j_get N x1 2) x3)).1) x2 (j_highFor ((j_make N x2 (j_lowFor N (j_get N x1 1) x3) (j_lowFor N (j_get N x1 2) x3)).1) (j_get N x1 1) x3) (j_highFor ((j_make N x2 (j_lowFor N (j_get N x1 1) x3) (j_lowFor N (j_get N x1 2) x3)).1) (j_get N x1 2) x3)).2)) _ (j_get N x1 1)) (cwV 1 hts (gV kml_N_127 kim_N_release ksl_N_release kin_N kcd_N_release) rfl rfl rfl (by decide +kernel) ⟨Nat.le_of_ble_eq_true rfl, Nat.le_of_ble_eq_true rfl⟩) hP hK hD hS hA rfl hl.1 rfl (Nat.le_of_ble_eq_true rfl) d_N_rewrite_85 ⟨Nat.zero_le _, Nat.zero_le _⟩ (fun H locs hP hD hS => ?_)
  refine lv_aload_n hx hb d_N_rewrite_88 rfl (lv_at hl 4 rfl) ?_
  refine lv_iload hx hb d_N_rewrite_89 (lv_at hl 2 rfl) ?_
  refine nCallv (As := [.int (j_get N x1 2)]) (rest := []) ⟨hx, hb, hml, hown, hts⟩ (c_N_release l dC dI cI a (j_release (j_link (j_refer (j_refer ((j_make ((j_make N x2 (j_lowFor N (j_get N x1 1) x3) (j_lowFor N (j_get N x1 2) x3)).1) x2 (j_highFor ((j_make N x2 (j_lowFor N (j_get N x1 1) x3) (j_lowFor N (j_get N x1 2) x3)).1) (j_get N x1 1) x3) (j_highFor ((j_make N x2 (j_lowFor N (j_get N x1 1) x3) (j_lowFor N (j_get N x1 2) x3)).1) (j_get N x1 2) x3)).1) ((j_make N x2 (j_lowFor N (j_get N x1 1) x3) (j_lowFor N (j_get N x1 2) x3)).2) 1) ((j_make ((j_make N x2 (j_lowFor N (j_get N x1 1) x3) (j_lowFor N (j_get N x1 2) x3)).1) x2 (j_highFor ((j_make N x2 (j_lowFor N (j_get N x1 1) x3) (j_lowFor N (j_get N x1 2) x3)).1) (j_get N x1 1) x3) (j_highFor ((j_make N x2 (j_lowFor N (j_get N x1 1) x3) (j_lowFor N (j_get N x1 2) x3)).1) (j_get N x1 2) x3)).2) 1) x1 x3 ((j_make N x2 (j_lowFor N (j_get N x1 1) x3) (j_lowFor N (j_get N x1 2) x3)).2) ((j_make ((j_make N x2 (j_lowFor N (j_get N x1 1) x3) (j_lowFor N (j_get N x1 2) x3)).1) x2 (j_highFor ((j_make N x2 (j_lowFor N (j_get N x1 1) x3) (j_lowFor N (j_get N x1 2) x3)).1) (j_get N x1 1) x3) (j_highFor ((j_make N x2 (j_lowFor N (j_get N x1 1) x3) (j_lowFor N (j_get N x1 2) x3)).1) (j_get N x1 2) x3)).2)) (j_get N x1 1)) _ (j_get N x1 2)) (cwV 1 hts (gV kml_N_127 kim_N_release ksl_N_release kin_N kcd_N_release) rfl rfl rfl (by decide +kernel) ⟨Nat.le_of_ble_eq_true rfl, Nat.le_of_ble_eq_true rfl⟩) hP hK hD hS hA rfl hl.1 rfl (Nat.le_of_ble_eq_true rfl) d_N_rewrite_91 ⟨Nat.zero_le _, Nat.zero_le _⟩ (fun H locs hP hD hS => ?_)
  refine lv_aload_n hx hb d_N_rewrite_94 rfl (lv_at hl 4 rfl) ?_
  refine lv_dup hx hb d_N_rewrite_95 rfl ?_
  refine va_get (D := (dC, dI)) (ci := 1) (v := .int ((j_release (j_release (j_link (j_refer (j_refer ((j_make ((j_make N x2 (j_lowFor N (j_get N x1 1) x3) (j_lowFor N (j_get N x1 2) x3)).1) x2 (j_highFor ((j_make N x2 (j_lowFor N (j_get N x1 1) x3) (j_lowFor N (j_get N x1 2) x3)).1) (j_get N x1 1) x3) (j_highFor ((j_make N x2 (j_lowFor N (j_get N x1 1) x3) (j_lowFor N (j_get N x1 2) x3)).1) (j_get N x1 2) x3)).1) ((j_make N x2 (j_lowFor N (j_get N x1 1) x3) (j_lowFor N (j_get N x1 2) x3)).2) 1) ((j_make ((j_make N x2 (j_lowFor N (j_get N x1 1) x3) (j_lowFor N (j_get N x1 2) x3)).1) x2 (j_highFor ((j_make N x2 (j_lowFor N (j_get N x1 1) x3) (j_lowFor N (j_get N x1 2) x3)).1) (j_get N x1 1) x3) (j_highFor ((j_make N x2 (j_lowFor N (j_get N x1 1) x3) (j_lowFor N (j_get N x1 2) x3)).1) (j_get N x1 2) x3)).2) 1) x1 x3 ((j_make N x2 (j_lowFor N (j_get N x1 1) x3) (j_lowFor N (j_get N x1 2) x3)).2) ((j_make ((j_make N x2 (j_lowFor N (j_get N x1 1) x3) (j_lowFor N (j_get N x1 2) x3)).1) x2 (j_highFor ((j_make N x2 (j_lowFor N (j_get N x1 1) x3) (j_lowFor N (j_get N x1 2) x3)).1) (j_get N x1 1) x3) (j_highFor ((j_make N x2 (j_lowFor N (j_get N x1 1) x3) (j_lowFor N (j_get N x1 2) x3)).1) (j_get N x1 2) x3)).2)) (j_get N x1 1)) (j_get N x1 2)) 0 5)) (C := R_N) (T := T_N) (N := 11) hx hb hts in_N hown hK hP 0 rfl rfl 10 (by decide) (hts _ kfl_N_43) (fun _ h9 => h9) rfl d_N_rewrite_96 ?_
  refine lv_iconst (v := 1) hx hb d_N_rewrite_99 (by decide) ?_
  refine lv_iadd hx hb d_N_rewrite_100 ?_
  refine nPut5 hx hb hts hown hK hP hD hS kfl_N_43 d_N_rewrite_101 (fun H locs hP hD hS => ?_)
  have hP9 : va_P (dC, dI) cls0 (nW cI a (j_rewrite N x1 x2 x3)) _ := (show up (j_release (j_release (j_link (j_refer (j_refer ((j_make ((j_make N x2 (j_lowFor N (j_get N x1 1) x3) (j_lowFor N (j_get N x1 2) x3)).1) x2 (j_highFor ((j_make N x2 (j_lowFor N (j_get N x1 1) x3) (j_lowFor N (j_get N x1 2) x3)).1) (j_get N x1 1) x3) (j_highFor ((j_make N x2 (j_lowFor N (j_get N x1 1) x3) (j_lowFor N (j_get N x1 2) x3)).1) (j_get N x1 2) x3)).1) ((j_make N x2 (j_lowFor N (j_get N x1 1) x3) (j_lowFor N (j_get N x1 2) x3)).2) 1) ((j_make ((j_make N x2 (j_lowFor N (j_get N x1 1) x3) (j_lowFor N (j_get N x1 2) x3)).1) x2 (j_highFor ((j_make N x2 (j_lowFor N (j_get N x1 1) x3) (j_lowFor N (j_get N x1 2) x3)).1) (j_get N x1 1) x3) (j_highFor ((j_make N x2 (j_lowFor N (j_get N x1 1) x3) (j_lowFor N (j_get N x1 2) x3)).1) (j_get N x1 2) x3)).2) 1) x1 x3 ((j_make N x2 (j_lowFor N (j_get N x1 1) x3) (j_lowFor N (j_get N x1 2) x3)).2) ((j_make ((j_make N x2 (j_lowFor N (j_get N x1 1) x3) (j_lowFor N (j_get N x1 2) x3)).1) x2 (j_highFor ((j_make N x2 (j_lowFor N (j_get N x1 1) x3) (j_lowFor N (j_get N x1 2) x3)).1) (j_get N x1 1) x3) (j_highFor ((j_make N x2 (j_lowFor N (j_get N x1 1) x3) (j_lowFor N (j_get N x1 2) x3)).1) (j_get N x1 2) x3)).2)) (j_get N x1 1)) (j_get N x1 2)) 0 5 (((j_release (j_release (j_link (j_refer (j_refer ((j_make ((j_make N x2 (j_lowFor N (j_get N x1 1) x3) (j_lowFor N (j_get N x1 2) x3)).1) x2 (j_highFor ((j_make N x2 (j_lowFor N (j_get N x1 1) x3) (j_lowFor N (j_get N x1 2) x3)).1) (j_get N x1 1) x3) (j_highFor ((j_make N x2 (j_lowFor N (j_get N x1 1) x3) (j_lowFor N (j_get N x1 2) x3)).1) (j_get N x1 2) x3)).1) ((j_make N x2 (j_lowFor N (j_get N x1 1) x3) (j_lowFor N (j_get N x1 2) x3)).2) 1) ((j_make ((j_make N x2 (j_lowFor N (j_get N x1 1) x3) (j_lowFor N (j_get N x1 2) x3)).1) x2 (j_highFor ((j_make N x2 (j_lowFor N (j_get N x1 1) x3) (j_lowFor N (j_get N x1 2) x3)).1) (j_get N x1 1) x3) (j_highFor ((j_make N x2 (j_lowFor N (j_get N x1 1) x3) (j_lowFor N (j_get N x1 2) x3)).1) (j_get N x1 2) x3)).2) 1) x1 x3 ((j_make N x2 (j_lowFor N (j_get N x1 1) x3) (j_lowFor N (j_get N x1 2) x3)).2) ((j_make ((j_make N x2 (j_lowFor N (j_get N x1 1) x3) (j_lowFor N (j_get N x1 2) x3)).1) x2 (j_highFor ((j_make N x2 (j_lowFor N (j_get N x1 1) x3) (j_lowFor N (j_get N x1 2) x3)).1) (j_get N x1 1) x3) (j_highFor ((j_make N x2 (j_lowFor N (j_get N x1 1) x3) (j_lowFor N (j_get N x1 2) x3)).1) (j_get N x1 2) x3)).2)) (j_get N x1 1)) (j_get N x1 2)) 0 5) + 1) = j_rewrite N x1 x2 x3 from by simp only [j_rewrite, j_rewrite1, j_rewrite2, j_rewriteA, j_rewriteB, if_true, if_false, not_true_eq_false, not_false_eq_true, true_and, and_true, false_and, and_false, true_or, or_true, false_or, or_false, ite_true, ite_false]) ▸ hP
  have hD9 : va_D A (nW cI a (j_rewrite N x1 x2 x3)) := (show up (j_release (j_release (j_link (j_refer (j_refer ((j_make ((j_make N x2 (j_lowFor N (j_get N x1 1) x3) (j_lowFor N (j_get N x1 2) x3)).1) x2 (j_highFor ((j_make N x2 (j_lowFor N (j_get N x1 1) x3) (j_lowFor N (j_get N x1 2) x3)).1) (j_get N x1 1) x3) (j_highFor ((j_make N x2 (j_lowFor N (j_get N x1 1) x3) (j_lowFor N (j_get N x1 2) x3)).1) (j_get N x1 2) x3)).1) ((j_make N x2 (j_lowFor N (j_get N x1 1) x3) (j_lowFor N (j_get N x1 2) x3)).2) 1) ((j_make ((j_make N x2 (j_lowFor N (j_get N x1 1) x3) (j_lowFor N (j_get N x1 2) x3)).1) x2 (j_highFor ((j_make N x2 (j_lowFor N (j_get N x1 1) x3) (j_lowFor N (j_get N x1 2) x3)).1) (j_get N x1 1) x3) (j_highFor ((j_make N x2 (j_lowFor N (j_get N x1 1) x3) (j_lowFor N (j_get N x1 2) x3)).1) (j_get N x1 2) x3)).2) 1) x1 x3 ((j_make N x2 (j_lowFor N (j_get N x1 1) x3) (j_lowFor N (j_get N x1 2) x3)).2) ((j_make ((j_make N x2 (j_lowFor N (j_get N x1 1) x3) (j_lowFor N (j_get N x1 2) x3)).1) x2 (j_highFor ((j_make N x2 (j_lowFor N (j_get N x1 1) x3) (j_lowFor N (j_get N x1 2) x3)).1) (j_get N x1 1) x3) (j_highFor ((j_make N x2 (j_lowFor N (j_get N x1 1) x3) (j_lowFor N (j_get N x1 2) x3)).1) (j_get N x1 2) x3)).2)) (j_get N x1 1)) (j_get N x1 2)) 0 5 (((j_release (j_release (j_link (j_refer (j_refer ((j_make ((j_make N x2 (j_lowFor N (j_get N x1 1) x3) (j_lowFor N (j_get N x1 2) x3)).1) x2 (j_highFor ((j_make N x2 (j_lowFor N (j_get N x1 1) x3) (j_lowFor N (j_get N x1 2) x3)).1) (j_get N x1 1) x3) (j_highFor ((j_make N x2 (j_lowFor N (j_get N x1 1) x3) (j_lowFor N (j_get N x1 2) x3)).1) (j_get N x1 2) x3)).1) ((j_make N x2 (j_lowFor N (j_get N x1 1) x3) (j_lowFor N (j_get N x1 2) x3)).2) 1) ((j_make ((j_make N x2 (j_lowFor N (j_get N x1 1) x3) (j_lowFor N (j_get N x1 2) x3)).1) x2 (j_highFor ((j_make N x2 (j_lowFor N (j_get N x1 1) x3) (j_lowFor N (j_get N x1 2) x3)).1) (j_get N x1 1) x3) (j_highFor ((j_make N x2 (j_lowFor N (j_get N x1 1) x3) (j_lowFor N (j_get N x1 2) x3)).1) (j_get N x1 2) x3)).2) 1) x1 x3 ((j_make N x2 (j_lowFor N (j_get N x1 1) x3) (j_lowFor N (j_get N x1 2) x3)).2) ((j_make ((j_make N x2 (j_lowFor N (j_get N x1 1) x3) (j_lowFor N (j_get N x1 2) x3)).1) x2 (j_highFor ((j_make N x2 (j_lowFor N (j_get N x1 1) x3) (j_lowFor N (j_get N x1 2) x3)).1) (j_get N x1 1) x3) (j_highFor ((j_make N x2 (j_lowFor N (j_get N x1 1) x3) (j_lowFor N (j_get N x1 2) x3)).1) (j_get N x1 2) x3)).2)) (j_get N x1 1)) (j_get N x1 2)) 0 5) + 1) = j_rewrite N x1 x2 x3 from by simp only [j_rewrite, j_rewrite1, j_rewrite2, j_rewriteA, j_rewriteB, if_true, if_false, not_true_eq_false, not_false_eq_true, true_and, and_true, false_and, and_false, true_or, or_true, false_or, or_false, ite_true, ite_false]) ▸ hD
  exact W.vret hx hb hr (fun t ht hW => ⟨⟨(), rfl, trivial, by rw [ht]; exact hP9, va_K.moved hW.alike hK, hD9⟩, hS.F ht⟩) hS.2.2 d_N_rewrite_104
end
section
set_option maxHeartbeats 4000000 in
set_option maxRecDepth 100000 in
/-- N_collect -/
theorem c_N_collect (l : Launch) (dC : Nat → ClassId) (dI : Nat → Nat → Nat) (cI : ClassId) (a : Nat → Nat) (N : Mm) (sz : Nat) (hv : ∀ k, k < 13 → ∃ w, w < 13 ∧ N 5 k = nI w) : Met l y_N_collect (.code y_N_collect b_N_collect 4 none :: W0) ({ frames := 3, cells := 0, slots := 0, locals := 72 } : Room) (va_Pc [.ref (a 0)] (nM dC dI cI a N sz)) (va_Qv (fun _ : Unit => True) (fun _ t => nE dC dI cI a (j_collect N) (va_A (nW cI a N) sz) t) (va_A (nW cI a N) sz)) 0 0 (va_A (nW cI a N) sz) := by
  refine Met.ofW (cc := b_N_collect) (maxL := 4) (ret := none) (by decide) rfl ?_
  intro p e s m args below meth c s₁ B hml hv
  obtain ⟨rfl, hsz, hP, hK, hD0⟩ := hv
  have hx := B.exec
  have hb := B.bytes
  have hr := B.returns
  have hts1 := atoms_spec (ws := .code y_N_collect b_N_collect 4 none :: W0) B.pre
  have hts : ∀ w ∈ W0, w.before _ s = true := fun w h => hts1 w (List.mem_cons_of_mem _ h)
  have hown : s.vm.findClass R_N = some m.cls := findClass_of_methodNamed B.named
  have hlocks := B.notSynchronized
  subst hsz
  have hD := hD0.self (sz := s.heap.size)
  generalize hAe : va_A (nW cI a N) s.heap.size = A at hD ⊢
  have hA : ∀ q : Nat, s.heap.size ≤ q → A q := fun q h => by rw [← hAe]; exact Or.inr h
  have hS : va_S A s.heap s.heap [] := va_S.rf
  have hP : va_P (dC, dI) cls0 (nW cI a N) s.heap := hP
  have hl := lv_entry ([.ref (a 0)]) (n := 4) (Nat.le_of_ble_eq_true rfl)
  rw [lg_entry_eq]
  generalize (lg_sl ([.ref (a 0)]) ++ List.replicate (4 - (lg_sl ([.ref (a 0)])).length) Slot.unset).toArray = ls at hl ⊢
  have hl : lv_has ls 4 [(0, .ref (a 0))] := hl
  have loop : ∀ (n : Nat) (N1 : Mm) (k : Nat) (H : Heap) (locs : List Loc), k + n = 12 → N1 5 = N 5 → j_collect N = j_collectL n N1 (nI k) → va_P (dC, dI) cls0 (nW cI a N1) H → va_D A (nW cI a N1) → va_S A s.heap H locs → ∀ (ls : Array Slot), lv_has ls 4 [(1, .int (nI k)), (0, .ref (a 0))] → W p l e (headSpec (.code y_N_collect b_N_collect 4 none :: W0) ({ frames := 3, cells := 0, slots := 0, locals := 72 } : Room)).room s m ([.ref (a 0)] : List Value).toArray below meth c H locs 0 0 (MQ below (va_Qv (fun _ : Unit => True) (fun _ t => nE dC dI cI a (j_collect N) A t) A) ([.ref (a 0)] : List Value).toArray s 0 0 A) (F0 m 2 ls []) := by
    intro n
    induction n with
    | zero =>
      intro N1 k H locs hk h5 hr0 hP hD hS ls hl
      obtain ⟨w, hw, ew⟩ := hv k (by omega)
      refine lv_iload_n hx hb d_N_collect_2 rfl (lv_at hl 0 rfl) ?_
      refine lv_bipush (v := 12) hx hb d_N_collect_3 (by decide) ?_
      refine lv_icmp_ge (tgt := 68) hx hb d_N_collect_5 (by decide) (fun c5 => ?_) (fun c5 => ?_)
      · have hP9 : va_P (dC, dI) cls0 (nW cI a (j_collect N)) _ := (show N1 = j_collect N from by rw [hr0]; simp only [j_collectL, c5, Int32.not_lt.mpr c5, if_true, if_false, not_true_eq_false, not_false_eq_true, true_and, and_true, false_and, and_false, true_or, or_true, false_or, or_false, ite_true, ite_false, eq_self]) ▸ hP
        have hD9 : va_D A (nW cI a (j_collect N)) := (show N1 = j_collect N from by rw [hr0]; simp only [j_collectL, c5, Int32.not_lt.mpr c5, if_true, if_false, not_true_eq_false, not_false_eq_true, true_and, and_true, false_and, and_false, true_or, or_true, false_or, or_false, ite_true, ite_false, eq_self]) ▸ hD
        exact W.vret hx hb hr (fun t ht hW => ⟨⟨(), rfl, trivial, by rw [ht]; exact hP9, va_K.moved hW.alike hK, hD9⟩, hS.F ht⟩) hS.2.2 d_N_collect_68
      · exact absurd (nI_le (a := 12) (b := k) (by omega) (by omega)) c5
    | succ n ih =>
      intro N1 k H locs hk h5 hr0 hP hD hS ls hl
      obtain ⟨w, hw, ew⟩ := hv k (by omega)
      refine lv_iload_n hx hb d_N_collect_2 rfl (lv_at hl 0 rfl) ?_
      refine lv_bipush (v := 12) hx hb d_N_collect_3 (by decide) ?_
      refine lv_icmp_ge (tgt := 68) hx hb d_N_collect_5 (by decide) (fun c5 => ?_) (fun c5 => ?_)
      · exact absurd c5 (nI_ge (a := k) (b := 12) (by omega) (by omega))
      · refine lv_aload_n hx hb d_N_collect_8 rfl (lv_at hl 1 rfl) ?_
        refine lv_iload_n hx hb d_N_collect_9 rfl (lv_at hl 0 rfl) ?_
        refine nCallR (As := [.int (nI k)]) (rest := []) ⟨hx, hb, hml, hown, hts⟩ (c_N_variableAt l dC dI cI a N1 (nI k)) (cwV 1 hts (gV kml_N_62 kim_N_variableAt ksl_N_variableAt kin_N kcd_N_variableAt) rfl rfl rfl (by decide +kernel) ⟨Nat.le_of_ble_eq_true rfl, Nat.le_of_ble_eq_true rfl⟩) hP hK rfl hl.1 rfl (Nat.le_of_ble_eq_true rfl) d_N_collect_10 ⟨Nat.zero_le _, Nat.zero_le _⟩ ?_
        refine lv_bipush (v := 64) hx hb d_N_collect_13 (by decide) ?_
        refine lv_imul hx hb d_N_collect_15 ?_
        refine lv_istore_n (lv' := [(2, .int ((j_variableAt N1 (nI k)) * 64)), (1, .int (nI k)), (0, .ref (a 0))]) hx hb d_N_collect_16 rfl hl (by decide) rfl (fun ls hl => ?_)
        refine lv_iload_n hx hb d_N_collect_17 rfl (lv_at hl 0 rfl) ?_
        refine lv_istore_n (lv' := [(3, .int ((j_variableAt N1 (nI k)) * 64)), (2, .int ((j_variableAt N1 (nI k)) * 64)), (1, .int (nI k)), (0, .ref (a 0))]) hx hb d_N_collect_18 rfl hl (by decide) rfl (fun ls hl => ?_)
        have ef := varAt_n (N := N1) (k := k) (w := w) (by omega) (by rw [h5]; exact ew)
        rw [ef] at hl
        have loop2 : ∀ (n2 : Nat) (N1 : Mm) (j : Nat) (H : Heap) (locs : List Loc), j + n2 = 64 → N1 5 = N 5 → j_collect N = j_collectL n (j_collectH n2 N1 (nI (w * 64 + j))) (nI k + 1) → va_P (dC, dI) cls0 (nW cI a N1) H → va_D A (nW cI a N1) → va_S A s.heap H locs → ∀ (ls : Array Slot), lv_has ls 4 [(3, .int (nI (w * 64 + j))), (2, .int (nI (w * 64))), (1, .int (nI k)), (0, .ref (a 0))] → W p l e (headSpec (.code y_N_collect b_N_collect 4 none :: W0) ({ frames := 3, cells := 0, slots := 0, locals := 72 } : Room)).room s m ([.ref (a 0)] : List Value).toArray below meth c H locs 0 0 (MQ below (va_Qv (fun _ : Unit => True) (fun _ t => nE dC dI cI a (j_collect N) A t) A) ([.ref (a 0)] : List Value).toArray s 0 0 A) (F0 m 19 ls []) := by
          intro n2
          induction n2 with
          | zero =>
            intro N1 j H locs hj h5 hr0 hP hD hS ls hl
            refine lv_iload_n hx hb d_N_collect_19 rfl (lv_at hl 0 rfl) ?_
            refine lv_iload_n hx hb d_N_collect_20 rfl (lv_at hl 1 rfl) ?_
            refine lv_bipush (v := 64) hx hb d_N_collect_21 (by decide) ?_
            refine lv_iadd hx hb d_N_collect_23 ?_
            refine lv_icmp_ge (tgt := 62) hx hb d_N_collect_24 (by decide) (fun c24 => ?_) (fun c24 => ?_)
            · refine lv_iinc (v := ((nI k) + 1)) (lv' := [(1, .int ((nI k) + 1)), (3, .int (nI (w * 64 + j))), (2, .int (nI (w * 64))), (0, .ref (a 0))]) hx hb d_N_collect_62 hl (k := 2) rfl rfl (by decide) rfl (fun ls hl => ?_)
              refine lv_goto (tgt := 2) hx hb d_N_collect_65 (by decide) ?_
              rw [nI_1] at hl
              exact ih _ (k + 1) H locs (by omega) h5 (by rw [hr0, nI_1]; rfl) hP hD hS ls (lv_sub hl [0, 3] rfl)
            · exact absurd (by rw [nI_64]; exact nI_le (by omega) (by omega)) c24
          | succ n2 ih2 =>
            intro N1 j H locs hj h5 hr0 hP hD hS ls hl
            refine lv_iload_n hx hb d_N_collect_19 rfl (lv_at hl 0 rfl) ?_
            refine lv_iload_n hx hb d_N_collect_20 rfl (lv_at hl 1 rfl) ?_
            refine lv_bipush (v := 64) hx hb d_N_collect_21 (by decide) ?_
            refine lv_iadd hx hb d_N_collect_23 ?_
            refine lv_icmp_ge (tgt := 62) hx hb d_N_collect_24 (by decide) (fun c24 => ?_) (fun c24 => ?_)
            · exact absurd c24 (by rw [nI_64]; exact nI_ge (by omega) (by omega))
            · refine lv_iload_n hx hb d_N_collect_27 rfl (lv_at hl 0 rfl) ?_
              refine lv_if_lt (tgt := 56) hx hb d_N_collect_28 (by decide) (fun c28 => ?_) (fun c28 => ?_)
              · refine lv_iinc (v := ((nI (w * 64 + j)) + 1)) (lv' := [(3, .int ((nI (w * 64 + j)) + 1)), (2, .int (nI (w * 64))), (1, .int (nI k)), (0, .ref (a 0))]) hx hb d_N_collect_56 hl (k := 0) rfl rfl (by decide) rfl (fun ls hl => ?_)
                refine lv_goto (tgt := 19) hx hb d_N_collect_59 (by decide) ?_
                rw [nI_1, Nat.add_assoc] at hl
                exact ih2 _ (j + 1) H locs (by omega) (by first | exact h5 | (rw [uq_2_5, needed_5]; exact h5)) (by rw [hr0]; rw [j_collectH]; simp only [c24, c28, Int32.not_le.mp c24, Int32.not_le.mpr c28, if_true, if_false, not_true_eq_false, not_false_eq_true, true_and, and_true, false_and, and_false, true_or, or_true, false_or, or_false, ite_true, ite_false, eq_self]; rw [nI_1, Nat.add_assoc]) hP hD hS ls (lv_sub hl [0, 1, 2, 3] rfl)
              · refine lv_iload_n hx hb d_N_collect_31 rfl (lv_at hl 0 rfl) ?_
                refine lv_aload_n hx hb d_N_collect_32 rfl (lv_at hl 3 rfl) ?_
                refine va_get (D := (dC, dI)) (ci := 1) (v := .ref (a 2)) (C := R_N) (T := T_N) (N := 11) hx hb hts in_N hown hK hP 0 rfl rfl 1 (by decide) (hts _ kfl_N_25) (fun _ h9 => h9) rfl d_N_collect_33 ?_
                refine va_alen (v := nI 768) hx hb hK hP 2 0 rfl rfl rfl d_N_collect_36 ?_
                refine lv_icmp_ge (tgt := 56) hx hb d_N_collect_37 (by decide) (fun c37 => ?_) (fun c37 => ?_)
                · refine lv_iinc (v := ((nI (w * 64 + j)) + 1)) (lv' := [(3, .int ((nI (w * 64 + j)) + 1)), (2, .int (nI (w * 64))), (1, .int (nI k)), (0, .ref (a 0))]) hx hb d_N_collect_56 hl (k := 0) rfl rfl (by decide) rfl (fun ls hl => ?_)
                  refine lv_goto (tgt := 19) hx hb d_N_collect_59 (by decide) ?_
                  rw [nI_1, Nat.add_assoc] at hl
                  exact ih2 _ (j + 1) H locs (by omega) (by first | exact h5 | (rw [uq_2_5, needed_5]; exact h5)) (by rw [hr0]; rw [j_collectH]; simp only [c24, c28, c37, Int32.not_le.mp c24, Int32.not_lt.mp c28, Int32.not_lt.mpr c37, if_true, if_false, not_true_eq_false, not_false_eq_true, true_and, and_true, false_and, and_false, true_or, or_true, false_or, or_false, ite_true, ite_false, eq_self]; rw [nI_1, Nat.add_assoc]) hP hD hS ls (lv_sub hl [0, 1, 2, 3] rfl)
                · refine lv_aload_n hx hb d_N_collect_40 rfl (lv_at hl 3 rfl) ?_
                  refine va_get (D := (dC, dI)) (ci := 1) (v := .ref (a 2)) (C := R_N) (T := T_N) (N := 11) hx hb hts in_N hown hK hP 0 rfl rfl 1 (by decide) (hts _ kfl_N_25) (fun _ h9 => h9) rfl d_N_collect_41 ?_
                  refine lv_iload_n hx hb d_N_collect_44 rfl (lv_at hl 0 rfl) ?_
                  refine lv_aload_n hx hb d_N_collect_45 rfl (lv_at hl 3 rfl) ?_
                  refine lv_aload_n hx hb d_N_collect_46 rfl (lv_at hl 3 rfl) ?_
                  refine va_get (D := (dC, dI)) (ci := 1) (v := .ref (a 2)) (C := R_N) (T := T_N) (N := 11) hx hb hts in_N hown hK hP 0 rfl rfl 1 (by decide) (hts _ kfl_N_25) (fun _ h9 => h9) rfl d_N_collect_47 ?_
                  refine lv_iload_n hx hb d_N_collect_50 rfl (lv_at hl 0 rfl) ?_
                  refine va_iald hx hb hK hP 2 0 rfl rfl (lt_of_in c28 c37 (by decide)) d_N_collect_51 ?_
                  refine nCalli (As := [.int (N1 2 (nI (w * 64 + j)).toNatClampNeg)]) (rest := [.int (nI (w * 64 + j)), .ref (a 2)]) ⟨hx, hb, hml, hown, hts⟩ (c_N_needed l dC dI cI a N1 _ (N1 2 (nI (w * 64 + j)).toNatClampNeg)) (cwV 1 hts (gV kml_N_103 kim_N_needed ksl_N_needed kin_N kcd_N_needed) rfl rfl rfl (by decide +kernel) ⟨Nat.le_of_ble_eq_true rfl, Nat.le_of_ble_eq_true rfl⟩) hP hK hD hS hA rfl hl.1 rfl (Nat.le_of_ble_eq_true rfl) d_N_collect_52 ⟨Nat.zero_le _, Nat.zero_le _⟩ (fun H locs hP hD hS => ?_)
                  refine nAst2 hx hb hK hP hD hS (lt_of_in c28 c37 (by decide)) d_N_collect_55 (fun H locs hP hD hS => ?_)
                  refine lv_iinc (v := ((nI (w * 64 + j)) + 1)) (lv' := [(3, .int ((nI (w * 64 + j)) + 1)), (2, .int (nI (w * 64))), (1, .int (nI k)), (0, .ref (a 0))]) hx hb d_N_collect_56 hl (k := 0) rfl rfl (by decide) rfl (fun ls hl => ?_)
                  refine lv_goto (tgt := 19) hx hb d_N_collect_59 (by decide) ?_
                  rw [nI_1, Nat.add_assoc] at hl
                  exact ih2 _ (j + 1) H locs (by omega) (by first | exact h5 | (rw [uq_2_5, needed_5]; exact h5)) (by rw [hr0]; rw [j_collectH]; simp only [c24, c28, c37, Int32.not_le.mp c24, Int32.not_lt.mp c28, Int32.not_le.mp c37, if_true, if_false, not_true_eq_false, not_false_eq_true, true_and, and_true, false_and, and_false, true_or, or_true, false_or, or_false, ite_true, ite_false, eq_self]; rw [nI_1, Nat.add_assoc]) hP hD hS ls (lv_sub hl [0, 1, 2, 3] rfl)
        exact loop2 64 _ 0 H locs rfl h5 (by rw [hr0, j_collectL, ef]; rfl) hP hD hS ls (lv_sub hl [0, 1, 2, 3] rfl)
  refine lv_iconst (v := 0) hx hb d_N_collect_0 (by decide) ?_
  refine lv_istore_n (lv' := [(1, .int 0), (0, .ref (a 0))]) hx hb d_N_collect_1 rfl hl (by decide) rfl (fun ls hl => ?_)
  exact loop 12 _ 0 s.heap [] rfl rfl rfl hP hD hS ls (lv_sub hl [0, 1] rfl)

set_option maxHeartbeats 4000000 in
set_option maxRecDepth 100000 in
/-- N_detach -/
theorem c_N_detach (l : Launch) (dC : Nat → ClassId) (dI : Nat → Nat → Nat) (cI : ClassId) (a : Nat → Nat) (N : Mm) (sz : Nat) (x1 x2 : Int32) (u : Nat) (hu : u < 12) (hx1 : x1 = nI u) : Met l y_N_detach (.code y_N_detach b_N_detach 10 (some .int) :: W0) ({ frames := 1, cells := 0, slots := 0, locals := 24 } : Room) (va_Pc [.ref (a 0), .int x1, .int x2] (nM dC dI cI a N sz)) (va_Qi (fun (z : Int32) (_ : Unit) => z = (j_detach N x1 x2).2) (fun _ t => nE dC dI cI a ((j_detach N x1 x2).1) (va_A (nW cI a N) sz) t) (va_A (nW cI a N) sz)) 0 0 (va_A (nW cI a N) sz) := by
  refine Met.ofW (cc := b_N_detach) (maxL := 10) (ret := (some .int)) (by decide) rfl ?_
  intro p e s m args below meth c s₁ B hml hv
  obtain ⟨rfl, hsz, hP, hK, hD0⟩ := hv
  have hx := B.exec
  have hb := B.bytes
  have hr := B.returns
  have hts1 := atoms_spec (ws := .code y_N_detach b_N_detach 10 (some .int) :: W0) B.pre
  have hts : ∀ w ∈ W0, w.before _ s = true := fun w h => hts1 w (List.mem_cons_of_mem _ h)
  have hown : s.vm.findClass R_N = some m.cls := findClass_of_methodNamed B.named
  have hlocks := B.notSynchronized
  subst hsz
  have hD := hD0.self (sz := s.heap.size)
  generalize hAe : va_A (nW cI a N) s.heap.size = A at hD ⊢
  have hA : ∀ q : Nat, s.heap.size ≤ q → A q := fun q h => by rw [← hAe]; exact Or.inr h
  have hS : va_S A s.heap s.heap [] := va_S.rf
  have hP : va_P (dC, dI) cls0 (nW cI a N) s.heap := hP
  have hl := lv_entry ([.ref (a 0), .int x1, .int x2]) (n := 10) (Nat.le_of_ble_eq_true rfl)
  rw [lg_entry_eq]
  generalize (lg_sl ([.ref (a 0), .int x1, .int x2]) ++ List.replicate (10 - (lg_sl ([.ref (a 0), .int x1, .int x2])).length) Slot.unset).toArray = ls at hl ⊢
  have hl : lv_has ls 10 [(0, .ref (a 0)), (1, .int x1), (2, .int x2)] := hl
  have loop : ∀ (n : Nat) (N1 : Mm) (j : Nat) (x3 : Int32) (H : Heap) (locs : List Loc), j + n = 64 → j_detach N x1 x2 = j_detachH x2 x1 n N1 x3 (nI (u * 64 + j)) → va_P (dC, dI) cls0 (nW cI a N1) H → va_D A (nW cI a N1) → va_S A s.heap H locs → ∀ (ls : Array Slot), lv_has ls 10 [(5, .int (nI (u * 64 + j))), (4, .int (nI (u * 64))), (3, .int x3), (0, .ref (a 0)), (1, .int x1), (2, .int x2)] → W p l e (headSpec (.code y_N_detach b_N_detach 10 (some .int) :: W0) ({ frames := 1, cells := 0, slots := 0, locals := 24 } : Room)).room s m ([.ref (a 0), .int x1, .int x2] : List Value).toArray below meth c H locs 0 0 (MQ below (va_Qi (fun (z : Int32) (_ : Unit) => z = (j_detach N x1 x2).2) (fun _ t => nE dC dI cI a ((j_detach N x1 x2).1) A t) A) ([.ref (a 0), .int x1, .int x2] : List Value).toArray s 0 0 A) (F0 m 12 ls []) := by
    intro n
    induction n with
    | zero =>
      intro N1 j x3 H locs hj hr0 hP hD hS ls hl
      refine lv_iload hx hb d_N_detach_12 (lv_at hl 0 rfl) ?_
      refine lv_iload hx hb d_N_detach_14 (lv_at hl 1 rfl) ?_
      refine lv_bipush (v := 64) hx hb d_N_detach_16 (by decide) ?_
      refine lv_iadd hx hb d_N_detach_18 ?_
      refine lv_icmp_ge (tgt := 183) hx hb d_N_detach_19 (by decide) (fun c19 => ?_) (fun c19 => ?_)
      · refine lv_iload_n hx hb d_N_detach_183 rfl (lv_at hl 2 rfl) ?_
        have hP9 : va_P (dC, dI) cls0 (nW cI a ((j_detach N x1 x2).1)) _ := (show N1 = (j_detach N x1 x2).1 from by rw [hr0]; simp only [j_detachH, c19, Int32.not_lt.mpr c19, if_true, if_false, not_true_eq_false, not_false_eq_true, true_and, and_true, false_and, and_false, true_or, or_true, false_or, or_false, ite_true, ite_false, eq_self]) ▸ hP
        have hD9 : va_D A (nW cI a ((j_detach N x1 x2).1)) := (show N1 = (j_detach N x1 x2).1 from by rw [hr0]; simp only [j_detachH, c19, Int32.not_lt.mpr c19, if_true, if_false, not_true_eq_false, not_false_eq_true, true_and, and_true, false_and, and_false, true_or, or_true, false_or, or_false, ite_true, ite_false, eq_self]) ▸ hD
        exact W.iret (v := x3) hx hb hr (fun t ht hW => ⟨⟨x3, (), rfl, (show x3 = (j_detach N x1 x2).2 from by rw [hr0]; simp only [j_detachH, c19, Int32.not_lt.mpr c19, if_true, if_false, not_true_eq_false, not_false_eq_true, true_and, and_true, false_and, and_false, true_or, or_true, false_or, or_false, ite_true, ite_false, eq_self]), by rw [ht]; exact hP9, va_K.moved hW.alike hK, hD9⟩, hS.F ht⟩) hS.2.2 d_N_detach_184
      · exact absurd (by rw [nI_64]; exact nI_le (by omega) (by omega)) c19
    | succ n ih =>
      intro N1 j x3 H locs hj hr0 hP hD hS ls hl
      refine lv_iload hx hb d_N_detach_12 (lv_at hl 0 rfl) ?_
      refine lv_iload hx hb d_N_detach_14 (lv_at hl 1 rfl) ?_
      refine lv_bipush (v := 64) hx hb d_N_detach_16 (by decide) ?_
      refine lv_iadd hx hb d_N_detach_18 ?_
      refine lv_icmp_ge (tgt := 183) hx hb d_N_detach_19 (by decide) (fun c19 => ?_) (fun c19 => ?_)
      · exact absurd c19 (by rw [nI_64]; exact nI_ge (by omega) (by omega))
      · refine lv_iload hx hb d_N_detach_22 (lv_at hl 0 rfl) ?_
        refine lv_if_lt (tgt := 50) hx hb d_N_detach_24 (by decide) (fun c24 => ?_) (fun c24 => ?_)
        · refine lv_iload_n hx hb d_N_detach_50 rfl (lv_at hl 2 rfl) ?_
          have hP9 : va_P (dC, dI) cls0 (nW cI a ((j_detach N x1 x2).1)) _ := (show N1 = (j_detach N x1 x2).1 from by rw [hr0]; simp only [j_detachH, c19, c24, Int32.not_le.mp c19, Int32.not_le.mpr c24, if_true, if_false, not_true_eq_false, not_false_eq_true, true_and, and_true, false_and, and_false, true_or, or_true, false_or, or_false, ite_true, ite_false, eq_self]) ▸ hP
          have hD9 : va_D A (nW cI a ((j_detach N x1 x2).1)) := (show N1 = (j_detach N x1 x2).1 from by rw [hr0]; simp only [j_detachH, c19, c24, Int32.not_le.mp c19, Int32.not_le.mpr c24, if_true, if_false, not_true_eq_false, not_false_eq_true, true_and, and_true, false_and, and_false, true_or, or_true, false_or, or_false, ite_true, ite_false, eq_self]) ▸ hD
          exact W.iret (v := x3) hx hb hr (fun t ht hW => ⟨⟨x3, (), rfl, (show x3 = (j_detach N x1 x2).2 from by rw [hr0]; simp only [j_detachH, c19, c24, Int32.not_le.mp c19, Int32.not_le.mpr c24, if_true, if_false, not_true_eq_false, not_false_eq_true, true_and, and_true, false_and, and_false, true_or, or_true, false_or, or_false, ite_true, ite_false, eq_self]), by rw [ht]; exact hP9, va_K.moved hW.alike hK, hD9⟩, hS.F ht⟩) hS.2.2 d_N_detach_51
        · refine lv_iload hx hb d_N_detach_27 (lv_at hl 0 rfl) ?_
          refine lv_aload_n hx hb d_N_detach_29 rfl (lv_at hl 3 rfl) ?_
          refine va_get (D := (dC, dI)) (ci := 1) (v := .ref (a 2)) (C := R_N) (T := T_N) (N := 11) hx hb hts in_N hown hK hP 0 rfl rfl 1 (by decide) (hts _ kfl_N_25) (fun _ h9 => h9) rfl d_N_detach_30 ?_
          refine va_alen (v := nI 768) hx hb hK hP 2 0 rfl rfl rfl d_N_detach_33 ?_
          refine lv_icmp_ge (tgt := 50) hx hb d_N_detach_34 (by decide) (fun c34 => ?_) (fun c34 => ?_)
          · refine lv_iload_n hx hb d_N_detach_50 rfl (lv_at hl 2 rfl) ?_
            have hP9 : va_P (dC, dI) cls0 (nW cI a ((j_detach N x1 x2).1)) _ := (show N1 = (j_detach N x1 x2).1 from by rw [hr0]; simp only [j_detachH, c19, c24, c34, Int32.not_le.mp c19, Int32.not_lt.mp c24, Int32.not_lt.mpr c34, if_true, if_false, not_true_eq_false, not_false_eq_true, true_and, and_true, false_and, and_false, true_or, or_true, false_or, or_false, ite_true, ite_false, eq_self]) ▸ hP
            have hD9 : va_D A (nW cI a ((j_detach N x1 x2).1)) := (show N1 = (j_detach N x1 x2).1 from by rw [hr0]; simp only [j_detachH, c19, c24, c34, Int32.not_le.mp c19, Int32.not_lt.mp c24, Int32.not_lt.mpr c34, if_true, if_false, not_true_eq_false, not_false_eq_true, true_and, and_true, false_and, and_false, true_or, or_true, false_or, or_false, ite_true, ite_false, eq_self]) ▸ hD
            exact W.iret (v := x3) hx hb hr (fun t ht hW => ⟨⟨x3, (), rfl, (show x3 = (j_detach N x1 x2).2 from by rw [hr0]; simp only [j_detachH, c19, c24, c34, Int32.not_le.mp c19, Int32.not_lt.mp c24, Int32.not_lt.mpr c34, if_true, if_false, not_true_eq_false, not_false_eq_true, true_and, and_true, false_and, and_false, true_or, or_true, false_or, or_false, ite_true, ite_false, eq_self]), by rw [ht]; exact hP9, va_K.moved hW.alike hK, hD9⟩, hS.F ht⟩) hS.2.2 d_N_detach_51
          · refine lv_iload_n hx hb d_N_detach_37 rfl (lv_at hl 4 rfl) ?_
            refine lv_if_lt (tgt := 50) hx hb d_N_detach_38 (by decide) (fun c38 => ?_) (fun c38 => ?_)
            · refine lv_iload_n hx hb d_N_detach_50 rfl (lv_at hl 2 rfl) ?_
              have hP9 : va_P (dC, dI) cls0 (nW cI a ((j_detach N x1 x2).1)) _ := (show N1 = (j_detach N x1 x2).1 from by rw [hr0]; simp only [j_detachH, c19, c24, c34, c38, Int32.not_le.mp c19, Int32.not_lt.mp c24, Int32.not_le.mp c34, Int32.not_le.mpr c38, if_true, if_false, not_true_eq_false, not_false_eq_true, true_and, and_true, false_and, and_false, true_or, or_true, false_or, or_false, ite_true, ite_false, eq_self]) ▸ hP
              have hD9 : va_D A (nW cI a ((j_detach N x1 x2).1)) := (show N1 = (j_detach N x1 x2).1 from by rw [hr0]; simp only [j_detachH, c19, c24, c34, c38, Int32.not_le.mp c19, Int32.not_lt.mp c24, Int32.not_le.mp c34, Int32.not_le.mpr c38, if_true, if_false, not_true_eq_false, not_false_eq_true, true_and, and_true, false_and, and_false, true_or, or_true, false_or, or_false, ite_true, ite_false, eq_self]) ▸ hD
              exact W.iret (v := x3) hx hb hr (fun t ht hW => ⟨⟨x3, (), rfl, (show x3 = (j_detach N x1 x2).2 from by rw [hr0]; simp only [j_detachH, c19, c24, c34, c38, Int32.not_le.mp c19, Int32.not_lt.mp c24, Int32.not_le.mp c34, Int32.not_le.mpr c38, if_true, if_false, not_true_eq_false, not_false_eq_true, true_and, and_true, false_and, and_false, true_or, or_true, false_or, or_false, ite_true, ite_false, eq_self]), by rw [ht]; exact hP9, va_K.moved hW.alike hK, hD9⟩, hS.F ht⟩) hS.2.2 d_N_detach_51
            · refine lv_iload_n hx hb d_N_detach_41 rfl (lv_at hl 4 rfl) ?_
              refine lv_aload_n hx hb d_N_detach_42 rfl (lv_at hl 3 rfl) ?_
              refine va_get (D := (dC, dI)) (ci := 1) (v := .ref (a 3)) (C := R_N) (T := T_N) (N := 11) hx hb hts in_N hown hK hP 0 rfl rfl 2 (by decide) (hts _ kfl_N_28) (fun _ h9 => h9) rfl d_N_detach_43 ?_
              refine va_alen (v := nI 12) hx hb hK hP 3 0 rfl rfl rfl d_N_detach_46 ?_
              refine lv_icmp_lt (tgt := 52) hx hb d_N_detach_47 (by decide) (fun c47 => ?_) (fun c47 => ?_)
              · refine lv_iconst (v := 0) hx hb d_N_detach_52 (by decide) ?_
                refine lv_istore (lv' := [(6, .int 0), (5, .int (nI (u * 64 + j))), (4, .int (nI (u * 64))), (3, .int x3), (0, .ref (a 0)), (1, .int x1), (2, .int x2)]) hx hb d_N_detach_53 hl (by decide) rfl (fun ls hl => ?_)
                refine lv_aload_n hx hb d_N_detach_55 rfl (lv_at hl 4 rfl) ?_
                refine va_get (D := (dC, dI)) (ci := 1) (v := .ref (a 2)) (C := R_N) (T := T_N) (N := 11) hx hb hts in_N hown hK hP 0 rfl rfl 1 (by decide) (hts _ kfl_N_25) (fun _ h9 => h9) rfl d_N_detach_56 ?_
                refine lv_iload hx hb d_N_detach_59 (lv_at hl 1 rfl) ?_
                refine va_iald hx hb hK hP 2 0 rfl rfl (lt_of_in c24 c34 (by decide)) d_N_detach_61 ?_
                refine lv_istore (lv' := [(7, .int (N1 2 (nI (u * 64 + j)).toNatClampNeg)), (6, .int 0), (5, .int (nI (u * 64 + j))), (4, .int (nI (u * 64))), (3, .int x3), (0, .ref (a 0)), (1, .int x1), (2, .int x2)]) hx hb d_N_detach_62 hl (by decide) rfl (fun ls hl => ?_)
                refine lv_iconst (v := 0) hx hb d_N_detach_64 (by decide) ?_
                refine lv_istore (lv' := [(8, .int 0), (7, .int (N1 2 (nI (u * 64 + j)).toNatClampNeg)), (6, .int 0), (5, .int (nI (u * 64 + j))), (4, .int (nI (u * 64))), (3, .int x3), (0, .ref (a 0)), (1, .int x1), (2, .int x2)]) hx hb d_N_detach_65 hl (by decide) rfl (fun ls hl => ?_)
                have loop2 : ∀ (n2 : Nat) (N2 : Mm) (i : Nat) (x3 x6 x7 : Int32) (H : Heap) (locs : List Loc), i + n2 = 24800 → j_detach N x1 x2 = j_detachH x2 x1 n (up (j_detachC x2 x1.toNatClampNeg n2 N2 x3 x6 x7).1 2 (nI (u * 64 + j)).toNatClampNeg (j_detachC x2 x1.toNatClampNeg n2 N2 x3 x6 x7).2.2) (j_detachC x2 x1.toNatClampNeg n2 N2 x3 x6 x7).2.1 (nI (u * 64 + j) + 1) → va_P (dC, dI) cls0 (nW cI a N2) H → va_D A (nW cI a N2) → va_S A s.heap H locs → ∀ (ls : Array Slot), lv_has ls 10 [(8, .int (nI i)), (7, .int x7), (6, .int x6), (5, .int (nI (u * 64 + j))), (4, .int (nI (u * 64))), (3, .int x3), (0, .ref (a 0)), (1, .int x1), (2, .int x2)] → W p l e (headSpec (.code y_N_detach b_N_detach 10 (some .int) :: W0) ({ frames := 1, cells := 0, slots := 0, locals := 24 } : Room)).room s m ([.ref (a 0), .int x1, .int x2] : List Value).toArray below meth c H locs 0 0 (MQ below (va_Qi (fun (z : Int32) (_ : Unit) => z = (j_detach N x1 x2).2) (fun _ t => nE dC dI cI a ((j_detach N x1 x2).1) A t) A) ([.ref (a 0), .int x1, .int x2] : List Value).toArray s 0 0 A) (F0 m 67 ls []) := by
                  intro n2
                  induction n2 with
                  | zero =>
                    intro N2 i x3 x6 x7 H locs hi hr0 hP hD hS ls hl
                    refine lv_iload hx hb d_N_detach_67 (lv_at hl 0 rfl) ?_
                    refine lv_sipush (v := 24800) hx hb d_N_detach_69 (by decide) ?_
                    refine lv_icmp_ge (tgt := 168) hx hb d_N_detach_72 (by decide) (fun c72 => ?_) (fun c72 => ?_)
                    · refine lv_aload_n hx hb d_N_detach_168 rfl (lv_at hl 6 rfl) ?_
                      refine va_get (D := (dC, dI)) (ci := 1) (v := .ref (a 2)) (C := R_N) (T := T_N) (N := 11) hx hb hts in_N hown hK hP 0 rfl rfl 1 (by decide) (hts _ kfl_N_25) (fun _ h9 => h9) rfl d_N_detach_169 ?_
                      refine lv_iload hx hb d_N_detach_172 (lv_at hl 3 rfl) ?_
                      refine lv_iload hx hb d_N_detach_174 (lv_at hl 2 rfl) ?_
                      refine nAst2 hx hb hK hP hD hS (lt_of_in c24 c34 (by decide)) d_N_detach_176 (fun H locs hP hD hS => ?_)
                      refine lv_iinc (v := ((nI (u * 64 + j)) + 1)) (lv' := [(5, .int ((nI (u * 64 + j)) + 1)), (8, .int (nI i)), (7, .int x7), (6, .int x6), (4, .int (nI (u * 64))), (3, .int x3), (0, .ref (a 0)), (1, .int x1), (2, .int x2)]) hx hb d_N_detach_177 hl (k := 3) rfl rfl (by decide) rfl (fun ls hl => ?_)
                      refine lv_goto (tgt := 12) hx hb d_N_detach_180 (by decide) ?_
                      rw [nI_1, Nat.add_assoc] at hl
                      exact ih _ (j + 1) _ H locs (by omega) (by rw [hr0, nI_1, Nat.add_assoc]; simp only [j_detachC, c72, Int32.not_lt.mpr c72, if_true, if_false, not_true_eq_false, not_false_eq_true, true_and, and_true, false_and, and_false, true_or, or_true, false_or, or_false, ite_true, ite_false, eq_self]) hP hD hS ls (lv_sub hl [0, 4, 5, 6, 7, 8] rfl)
                    · exact absurd (nI_le (a := 24800) (b := i) (by omega) (by omega)) c72
                  | succ n2 ih2 =>
                    intro N2 i x3 x6 x7 H locs hi hr0 hP hD hS ls hl
                    refine lv_iload hx hb d_N_detach_67 (lv_at hl 0 rfl) ?_
                    refine lv_sipush (v := 24800) hx hb d_N_detach_69 (by decide) ?_
                    refine lv_icmp_ge (tgt := 168) hx hb d_N_detach_72 (by decide) (fun c72 => ?_) (fun c72 => ?_)
                    · exact absurd c72 (nI_ge (a := i) (b := 24800) (by omega) (by omega))
                    · refine lv_iload hx hb d_N_detach_75 (lv_at hl 1 rfl) ?_
                      refine lv_if_eq (tgt := 168) hx hb d_N_detach_77 (by decide) (fun c77 => ?_) (fun c77 => ?_)
                      · refine lv_aload_n hx hb d_N_detach_168 rfl (lv_at hl 6 rfl) ?_
                        refine va_get (D := (dC, dI)) (ci := 1) (v := .ref (a 2)) (C := R_N) (T := T_N) (N := 11) hx hb hts in_N hown hK hP 0 rfl rfl 1 (by decide) (hts _ kfl_N_25) (fun _ h9 => h9) rfl d_N_detach_169 ?_
                        refine lv_iload hx hb d_N_detach_172 (lv_at hl 3 rfl) ?_
                        refine lv_iload hx hb d_N_detach_174 (lv_at hl 2 rfl) ?_
                        refine nAst2 hx hb hK hP hD hS (lt_of_in c24 c34 (by decide)) d_N_detach_176 (fun H locs hP hD hS => ?_)
                        refine lv_iinc (v := ((nI (u * 64 + j)) + 1)) (lv' := [(5, .int ((nI (u * 64 + j)) + 1)), (8, .int (nI i)), (7, .int x7), (6, .int x6), (4, .int (nI (u * 64))), (3, .int x3), (0, .ref (a 0)), (1, .int x1), (2, .int x2)]) hx hb d_N_detach_177 hl (k := 3) rfl rfl (by decide) rfl (fun ls hl => ?_)
                        refine lv_goto (tgt := 12) hx hb d_N_detach_180 (by decide) ?_
                        rw [nI_1, Nat.add_assoc] at hl
                        exact ih _ (j + 1) _ H locs (by omega) (by rw [hr0, nI_1, Nat.add_assoc]; (first | (simp only [j_detachC, c72, if_pos c77, Int32.not_le.mp c72, if_true, if_false, not_true_eq_false, not_false_eq_true, true_and, and_true, false_and, and_false, true_or, or_true, false_or, or_false, ite_true, ite_false, eq_self]; done) | (simp only [j_detachC, c72, c77, Int32.not_le.mp c72, if_true, if_false, not_true_eq_false, not_false_eq_true, true_and, and_true, false_and, and_false, true_or, or_true, false_or, or_false, ite_true, ite_false, eq_self]; done) | (simp only [j_detachC, c72, Int32.not_le.mp c72, if_true, if_false, not_true_eq_false, not_false_eq_true, true_and, and_true, false_and, and_false, true_or, or_true, false_or, or_false, ite_true, ite_false, eq_self]; rw [if_pos c77]; done))) hP hD hS ls (lv_sub hl [0, 4, 5, 6, 7, 8] rfl)
                      · refine lv_aload_n hx hb d_N_detach_80 rfl (lv_at hl 6 rfl) ?_
                        refine lv_iload hx hb d_N_detach_81 (lv_at hl 1 rfl) ?_
                        refine lv_iconst (v := 3) hx hb d_N_detach_83 (by decide) ?_
                        refine nCallR (As := [.int x7, .int 3]) (rest := []) ⟨hx, hb, hml, hown, hts⟩ (c_N_get l dC dI cI a N2 x7 3) (cwV 2 hts (gV kml_N_46 kim_N_get ksl_N_get kin_N kcd_N_get) rfl rfl rfl (by decide +kernel) ⟨Nat.le_of_ble_eq_true rfl, Nat.le_of_ble_eq_true rfl⟩) hP hK rfl hl.1 rfl (Nat.le_of_ble_eq_true rfl) d_N_detach_84 ⟨Nat.zero_le _, Nat.zero_le _⟩ ?_
                        refine lv_istore (lv' := [(9, .int (j_get N2 x7 3)), (8, .int (nI i)), (7, .int x7), (6, .int x6), (5, .int (nI (u * 64 + j))), (4, .int (nI (u * 64))), (3, .int x3), (0, .ref (a 0)), (1, .int x1), (2, .int x2)]) hx hb d_N_detach_87 hl (by decide) rfl (fun ls hl => ?_)
                        refine lv_aload_n hx hb d_N_detach_89 rfl (lv_at hl 7 rfl) ?_
                        refine lv_aload_n hx hb d_N_detach_90 rfl (lv_at hl 7 rfl) ?_
                        refine lv_iload hx hb d_N_detach_91 (lv_at hl 2 rfl) ?_
                        refine lv_iconst (v := 1) hx hb d_N_detach_93 (by decide) ?_
                        refine nCallR (As := [.int x7, .int 1]) (rest := [.ref (a 0)]) ⟨hx, hb, hml, hown, hts⟩ (c_N_get l dC dI cI a N2 x7 1) (cwV 2 hts (gV kml_N_46 kim_N_get ksl_N_get kin_N kcd_N_get) rfl rfl rfl (by decide +kernel) ⟨Nat.le_of_ble_eq_true rfl, Nat.le_of_ble_eq_true rfl⟩) hP hK rfl hl.1 rfl (Nat.le_of_ble_eq_true rfl) d_N_detach_94 ⟨Nat.zero_le _, Nat.zero_le _⟩ ?_
                        refine lv_iconst (v := 0) hx hb d_N_detach_97 (by decide) ?_
                        refine nCallR (As := [.int (j_get N2 x7 1), .int 0]) (rest := []) ⟨hx, hb, hml, hown, hts⟩ (c_N_get l dC dI cI a N2 (j_get N2 x7 1) 0) (cwV 2 hts (gV kml_N_46 kim_N_get ksl_N_get kin_N kcd_N_get) rfl rfl rfl (by decide +kernel) ⟨Nat.le_of_ble_eq_true rfl, Nat.le_of_ble_eq_true rfl⟩) hP hK rfl hl.1 rfl (Nat.le_of_ble_eq_true rfl) d_N_detach_98 ⟨Nat.zero_le _, Nat.zero_le _⟩ ?_
                        refine lv_iload_n hx hb d_N_detach_101 rfl (lv_at hl 9 rfl) ?_
                        refine lv_icmp_eq (tgt := 121) hx hb d_N_detach_102 (by decide) (fun c102 => ?_) (fun c102 => ?_)
                        · refine lv_aload_n hx hb d_N_detach_121 rfl (lv_at hl 7 rfl) ?_
                          refine lv_iload hx hb d_N_detach_122 (lv_at hl 2 rfl) ?_
                          refine lv_iconst (v := 3) hx hb d_N_detach_124 (by decide) ?_
                          refine lv_iload_n hx hb d_N_detach_125 rfl (lv_at hl 6 rfl) ?_
                          refine nCallv (As := [.int x7, .int 3, .int x3]) (rest := []) ⟨hx, hb, hml, hown, hts⟩ (c_N_set l dC dI cI a N2 _ x7 3 x3) (cwV 3 hts (gV kml_N_65 kim_N_set ksl_N_set kin_N kcd_N_set) rfl rfl rfl (by decide +kernel) ⟨Nat.le_of_ble_eq_true rfl, Nat.le_of_ble_eq_true rfl⟩) hP hK hD hS hA rfl hl.1 rfl (Nat.le_of_ble_eq_true rfl) d_N_detach_126 ⟨Nat.zero_le _, Nat.zero_le _⟩ (fun H locs hP hD hS => ?_)
                          refine lv_iload hx hb d_N_detach_129 (lv_at hl 2 rfl) ?_
                          refine lv_istore_n (lv' := [(3, .int x7), (9, .int (j_get N2 x7 3)), (8, .int (nI i)), (7, .int x7), (6, .int x6), (5, .int (nI (u * 64 + j))), (4, .int (nI (u * 64))), (0, .ref (a 0)), (1, .int x1), (2, .int x2)]) hx hb d_N_detach_131 rfl hl (by decide) rfl (fun ls hl => ?_)
                          refine lv_aload_n hx hb d_N_detach_132 rfl (lv_at hl 7 rfl) ?_
                          refine va_get (D := (dC, dI)) (ci := 1) (v := .ref (a 3)) (C := R_N) (T := T_N) (N := 11) hx hb hts in_N hown hK hP 0 rfl rfl 2 (by decide) (hts _ kfl_N_28) (fun _ h9 => h9) rfl d_N_detach_133 ?_
                          refine lv_iload_n hx hb d_N_detach_136 rfl (lv_at hl 8 rfl) ?_
                          refine lv_dup2_11 hx hb d_N_detach_137 rfl rfl ?_
                          refine va_iald hx hb hK hP 3 0 rfl rfl (lt_of_in c38 (Int32.not_le.mpr c47) (by decide)) d_N_detach_138 ?_
                          refine lv_iconst (v := 1) hx hb d_N_detach_139 (by decide) ?_
                          refine lv_isub hx hb d_N_detach_140 ?_
                          refine nAst3 hx hb hK hP hD hS (lt_of_in c38 (Int32.not_le.mpr c47) (by decide)) d_N_detach_141 (fun H locs hP hD hS => ?_)
                          refine lv_goto (tgt := 158) hx hb d_N_detach_142 (by decide) ?_
                          refine lv_iload hx hb d_N_detach_158 (lv_at hl 1 rfl) ?_
                          refine lv_istore (lv' := [(7, .int (j_get N2 x7 3)), (3, .int x7), (9, .int (j_get N2 x7 3)), (8, .int (nI i)), (6, .int x6), (5, .int (nI (u * 64 + j))), (4, .int (nI (u * 64))), (0, .ref (a 0)), (1, .int x1), (2, .int x2)]) hx hb d_N_detach_160 hl (by decide) rfl (fun ls hl => ?_)
                          refine lv_iinc (v := ((nI i) + 1)) (lv' := [(8, .int ((nI i) + 1)), (7, .int (j_get N2 x7 3)), (3, .int x7), (9, .int (j_get N2 x7 3)), (6, .int x6), (5, .int (nI (u * 64 + j))), (4, .int (nI (u * 64))), (0, .ref (a 0)), (1, .int x1), (2, .int x2)]) hx hb d_N_detach_162 hl (k := 3) rfl rfl (by decide) rfl (fun ls hl => ?_)
                          refine lv_goto (tgt := 67) hx hb d_N_detach_165 (by decide) ?_
                          rw [nI_1] at hl
                          exact ih2 _ (i + 1) _ _ _ H locs (by omega) (by rw [hr0]; (first | (simp only [j_detachC, c72, c77, if_pos c102, Int32.not_le.mp c72, if_true, if_false, not_true_eq_false, not_false_eq_true, true_and, and_true, false_and, and_false, true_or, or_true, false_or, or_false, ite_true, ite_false, eq_self]; done) | (simp only [j_detachC, c72, c77, c102, Int32.not_le.mp c72, if_true, if_false, not_true_eq_false, not_false_eq_true, true_and, and_true, false_and, and_false, true_or, or_true, false_or, or_false, ite_true, ite_false, eq_self]; done) | (simp only [j_detachC, c72, c77, Int32.not_le.mp c72, if_true, if_false, not_true_eq_false, not_false_eq_true, true_and, and_true, false_and, and_false, true_or, or_true, false_or, or_false, ite_true, ite_false, eq_self]; rw [if_pos c102]; done) | (simp only [j_detachC, c72, c77, if_pos c102, Int32.not_le.mp c72, if_true, if_false, not_true_eq_false, not_false_eq_true, true_and, and_true, false_and, and_false, true_or, or_true, false_or, or_false, ite_true, ite_false, eq_self]; simp only [uq_0_1, uq_0_2, uq_0_3, uq_0_4, uq_0_5, uq_1_0, uq_1_2, uq_1_3, uq_1_4, uq_1_5, uq_2_0, uq_2_1, uq_2_3, uq_2_4, uq_2_5, uq_3_0, uq_3_1, uq_3_2, uq_3_4, uq_3_5, uq_4_0, uq_4_1, uq_4_2, uq_4_3, uq_4_5, uq_5_0, uq_5_1, uq_5_2, uq_5_3, uq_5_4, uf_0_0, uf_0_1, uf_0_2, uf_0_3, uf_0_4, uf_0_5, uf_1_0, uf_1_1, uf_1_2, uf_1_3, uf_1_4, uf_1_5, uf_2_0, uf_2_1, uf_2_2, uf_2_3, uf_2_4, uf_2_5, uf_3_0, uf_3_1, uf_3_2, uf_3_3, uf_3_4, uf_3_5, uf_4_0, uf_4_1, uf_4_2, uf_4_3, uf_4_4, uf_4_5, uf_5_0, uf_5_1, uf_5_2, uf_5_3, uf_5_4, uf_5_5, js_0, js_2, js_3, js_4, js_5]; done) | (simp only [j_detachC, uq_0_1, uq_0_2, uq_0_3, uq_0_4, uq_0_5, uq_1_0, uq_1_2, uq_1_3, uq_1_4, uq_1_5, uq_2_0, uq_2_1, uq_2_3, uq_2_4, uq_2_5, uq_3_0, uq_3_1, uq_3_2, uq_3_4, uq_3_5, uq_4_0, uq_4_1, uq_4_2, uq_4_3, uq_4_5, uq_5_0, uq_5_1, uq_5_2, uq_5_3, uq_5_4, uf_0_0, uf_0_1, uf_0_2, uf_0_3, uf_0_4, uf_0_5, uf_1_0, uf_1_1, uf_1_2, uf_1_3, uf_1_4, uf_1_5, uf_2_0, uf_2_1, uf_2_2, uf_2_3, uf_2_4, uf_2_5, uf_3_0, uf_3_1, uf_3_2, uf_3_3, uf_3_4, uf_3_5, uf_4_0, uf_4_1, uf_4_2, uf_4_3, uf_4_4, uf_4_5, uf_5_0, uf_5_1, uf_5_2, uf_5_3, uf_5_4, uf_5_5, js_0, js_2, js_3, js_4, js_5, c72, c77, if_pos c102, Int32.not_le.mp c72, if_true, if_false, not_true_eq_false, not_false_eq_true, true_and, and_true, false_and, and_false, true_or, or_true, false_or, or_false, ite_true, ite_false, eq_self]; done) | (simp only [j_detachC, uq_0_1, uq_0_2, uq_0_3, uq_0_4, uq_0_5, uq_1_0, uq_1_2, uq_1_3, uq_1_4, uq_1_5, uq_2_0, uq_2_1, uq_2_3, uq_2_4, uq_2_5, uq_3_0, uq_3_1, uq_3_2, uq_3_4, uq_3_5, uq_4_0, uq_4_1, uq_4_2, uq_4_3, uq_4_5, uq_5_0, uq_5_1, uq_5_2, uq_5_3, uq_5_4, uf_0_0, uf_0_1, uf_0_2, uf_0_3, uf_0_4, uf_0_5, uf_1_0, uf_1_1, uf_1_2, uf_1_3, uf_1_4, uf_1_5, uf_2_0, uf_2_1, uf_2_2, uf_2_3, uf_2_4, uf_2_5, uf_3_0, uf_3_1, uf_3_2, uf_3_3, uf_3_4, uf_3_5, uf_4_0, uf_4_1, uf_4_2, uf_4_3, uf_4_4, uf_4_5, uf_5_0, uf_5_1, uf_5_2, uf_5_3, uf_5_4, uf_5_5, js_0, js_2, js_3, js_4, js_5, c72, c77, c102, Int32.not_le.mp c72, if_true, if_false, not_true_eq_false, not_false_eq_true, true_and, and_true, false_and, and_false, true_or, or_true, false_or, or_false, ite_true, ite_false, eq_self]; done) | (simp only [j_detachC, c72, c77, c102, Int32.not_le.mp c72, if_true, if_false, not_true_eq_false, not_false_eq_true, true_and, and_true, false_and, and_false, true_or, or_true, false_or, or_false, ite_true, ite_false, eq_self]; simp only [uq_0_1, uq_0_2, uq_0_3, uq_0_4, uq_0_5, uq_1_0, uq_1_2, uq_1_3, uq_1_4, uq_1_5, uq_2_0, uq_2_1, uq_2_3, uq_2_4, uq_2_5, uq_3_0, uq_3_1, uq_3_2, uq_3_4, uq_3_5, uq_4_0, uq_4_1, uq_4_2, uq_4_3, uq_4_5, uq_5_0, uq_5_1, uq_5_2, uq_5_3, uq_5_4, uf_0_0, uf_0_1, uf_0_2, uf_0_3, uf_0_4, uf_0_5, uf_1_0, uf_1_1, uf_1_2, uf_1_3, uf_1_4, uf_1_5, uf_2_0, uf_2_1, uf_2_2, uf_2_3, uf_2_4, uf_2_5, uf_3_0, uf_3_1, uf_3_2, uf_3_3, uf_3_4, uf_3_5, uf_4_0, uf_4_1, uf_4_2, uf_4_3, uf_4_4, uf_4_5, uf_5_0, uf_5_1, uf_5_2, uf_5_3, uf_5_4, uf_5_5, js_0, js_2, js_3, js_4, js_5]; done))) hP hD hS ls (lv_sub hl [0, 1, 4, 5, 6, 2, 7, 8, 9] rfl)
                        · refine lv_aload_n hx hb d_N_detach_105 rfl (lv_at hl 7 rfl) ?_
                          refine lv_aload_n hx hb d_N_detach_106 rfl (lv_at hl 7 rfl) ?_
                          refine lv_iload hx hb d_N_detach_107 (lv_at hl 2 rfl) ?_
                          refine lv_iconst (v := 2) hx hb d_N_detach_109 (by decide) ?_
                          refine nCallR (As := [.int x7, .int 2]) (rest := [.ref (a 0)]) ⟨hx, hb, hml, hown, hts⟩ (c_N_get l dC dI cI a N2 x7 2) (cwV 2 hts (gV kml_N_46 kim_N_get ksl_N_get kin_N kcd_N_get) rfl rfl rfl (by decide +kernel) ⟨Nat.le_of_ble_eq_true rfl, Nat.le_of_ble_eq_true rfl⟩) hP hK rfl hl.1 rfl (Nat.le_of_ble_eq_true rfl) d_N_detach_110 ⟨Nat.zero_le _, Nat.zero_le _⟩ ?_
                          refine lv_iconst (v := 0) hx hb d_N_detach_113 (by decide) ?_
                          refine nCallR (As := [.int (j_get N2 x7 2), .int 0]) (rest := []) ⟨hx, hb, hml, hown, hts⟩ (c_N_get l dC dI cI a N2 (j_get N2 x7 2) 0) (cwV 2 hts (gV kml_N_46 kim_N_get ksl_N_get kin_N kcd_N_get) rfl rfl rfl (by decide +kernel) ⟨Nat.le_of_ble_eq_true rfl, Nat.le_of_ble_eq_true rfl⟩) hP hK rfl hl.1 rfl (Nat.le_of_ble_eq_true rfl) d_N_detach_114 ⟨Nat.zero_le _, Nat.zero_le _⟩ ?_
                          refine lv_iload_n hx hb d_N_detach_117 rfl (lv_at hl 9 rfl) ?_
                          refine lv_icmp_ne (tgt := 145) hx hb d_N_detach_118 (by decide) (fun c118 => ?_) (fun c118 => ?_)
                          · refine lv_aload_n hx hb d_N_detach_145 rfl (lv_at hl 7 rfl) ?_
                            refine lv_iload hx hb d_N_detach_146 (lv_at hl 2 rfl) ?_
                            refine lv_iconst (v := 3) hx hb d_N_detach_148 (by decide) ?_
                            refine lv_iload hx hb d_N_detach_149 (lv_at hl 3 rfl) ?_
                            refine nCallv (As := [.int x7, .int 3, .int x6]) (rest := []) ⟨hx, hb, hml, hown, hts⟩ (c_N_set l dC dI cI a N2 _ x7 3 x6) (cwV 3 hts (gV kml_N_65 kim_N_set ksl_N_set kin_N kcd_N_set) rfl rfl rfl (by decide +kernel) ⟨Nat.le_of_ble_eq_true rfl, Nat.le_of_ble_eq_true rfl⟩) hP hK hD hS hA rfl hl.1 rfl (Nat.le_of_ble_eq_true rfl) d_N_detach_151 ⟨Nat.zero_le _, Nat.zero_le _⟩ (fun H locs hP hD hS => ?_)
                            refine lv_iload hx hb d_N_detach_154 (lv_at hl 2 rfl) ?_
                            refine lv_istore (lv' := [(6, .int x7), (9, .int (j_get N2 x7 3)), (8, .int (nI i)), (7, .int x7), (5, .int (nI (u * 64 + j))), (4, .int (nI (u * 64))), (3, .int x3), (0, .ref (a 0)), (1, .int x1), (2, .int x2)]) hx hb d_N_detach_156 hl (by decide) rfl (fun ls hl => ?_)
                            refine lv_iload hx hb d_N_detach_158 (lv_at hl 1 rfl) ?_
                            refine lv_istore (lv' := [(7, .int (j_get N2 x7 3)), (6, .int x7), (9, .int (j_get N2 x7 3)), (8, .int (nI i)), (5, .int (nI (u * 64 + j))), (4, .int (nI (u * 64))), (3, .int x3), (0, .ref (a 0)), (1, .int x1), (2, .int x2)]) hx hb d_N_detach_160 hl (by decide) rfl (fun ls hl => ?_)
                            refine lv_iinc (v := ((nI i) + 1)) (lv' := [(8, .int ((nI i) + 1)), (7, .int (j_get N2 x7 3)), (6, .int x7), (9, .int (j_get N2 x7 3)), (5, .int (nI (u * 64 + j))), (4, .int (nI (u * 64))), (3, .int x3), (0, .ref (a 0)), (1, .int x1), (2, .int x2)]) hx hb d_N_detach_162 hl (k := 3) rfl rfl (by decide) rfl (fun ls hl => ?_)
                            refine lv_goto (tgt := 67) hx hb d_N_detach_165 (by decide) ?_
                            rw [nI_1] at hl
                            exact ih2 _ (i + 1) _ _ _ H locs (by omega) (by rw [hr0]; (first | (simp only [j_detachC, c72, c77, c102, c118, Int32.not_le.mp c72, if_true, if_false, not_true_eq_false, not_false_eq_true, true_and, and_true, false_and, and_false, true_or, or_true, false_or, or_false, ite_true, ite_false, eq_self]; done) | (simp only [j_detachC, c72, c77, c102, c118, Int32.not_le.mp c72, if_true, if_false, not_true_eq_false, not_false_eq_true, true_and, and_true, false_and, and_false, true_or, or_true, false_or, or_false, ite_true, ite_false, eq_self]; simp only [uq_0_1, uq_0_2, uq_0_3, uq_0_4, uq_0_5, uq_1_0, uq_1_2, uq_1_3, uq_1_4, uq_1_5, uq_2_0, uq_2_1, uq_2_3, uq_2_4, uq_2_5, uq_3_0, uq_3_1, uq_3_2, uq_3_4, uq_3_5, uq_4_0, uq_4_1, uq_4_2, uq_4_3, uq_4_5, uq_5_0, uq_5_1, uq_5_2, uq_5_3, uq_5_4, uf_0_0, uf_0_1, uf_0_2, uf_0_3, uf_0_4, uf_0_5, uf_1_0, uf_1_1, uf_1_2, uf_1_3, uf_1_4, uf_1_5, uf_2_0, uf_2_1, uf_2_2, uf_2_3, uf_2_4, uf_2_5, uf_3_0, uf_3_1, uf_3_2, uf_3_3, uf_3_4, uf_3_5, uf_4_0, uf_4_1, uf_4_2, uf_4_3, uf_4_4, uf_4_5, uf_5_0, uf_5_1, uf_5_2, uf_5_3, uf_5_4, uf_5_5, js_0, js_2, js_3, js_4, js_5]; done) | (simp only [j_detachC, uq_0_1, uq_0_2, uq_0_3, uq_0_4, uq_0_5, uq_1_0, uq_1_2, uq_1_3, uq_1_4, uq_1_5, uq_2_0, uq_2_1, uq_2_3, uq_2_4, uq_2_5, uq_3_0, uq_3_1, uq_3_2, uq_3_4, uq_3_5, uq_4_0, uq_4_1, uq_4_2, uq_4_3, uq_4_5, uq_5_0, uq_5_1, uq_5_2, uq_5_3, uq_5_4, uf_0_0, uf_0_1, uf_0_2, uf_0_3, uf_0_4, uf_0_5, uf_1_0, uf_1_1, uf_1_2, uf_1_3, uf_1_4, uf_1_5, uf_2_0, uf_2_1, uf_2_2, uf_2_3, uf_2_4, uf_2_5, uf_3_0, uf_3_1, uf_3_2, uf_3_3, uf_3_4, uf_3_5, uf_4_0, uf_4_1, uf_4_2, uf_4_3, uf_4_4, uf_4_5, uf_5_0, uf_5_1, uf_5_2, uf_5_3, uf_5_4, uf_5_5, js_0, js_2, js_3, js_4, js_5, c72, c77, c102, c118, Int32.not_le.mp c72, if_true, if_false, not_true_eq_false, not_false_eq_true, true_and, and_true, false_and, and_false, true_or, or_true, false_or, or_false, ite_true, ite_false, eq_self]; done))) hP hD hS ls (lv_sub hl [0, 1, 2, 4, 5, 6, 7, 8, 9] rfl)
                          · refine lv_aload_n hx hb d_N_detach_121 rfl (lv_at hl 7 rfl) ?_
                            refine lv_iload hx hb d_N_detach_122 (lv_at hl 2 rfl) ?_
                            refine lv_iconst (v := 3) hx hb d_N_detach_124 (by decide) ?_
                            refine lv_iload_n hx hb d_N_detach_125 rfl (lv_at hl 6 rfl) ?_
                            refine nCallv (As := [.int x7, .int 3, .int x3]) (rest := []) ⟨hx, hb, hml, hown, hts⟩ (c_N_set l dC dI cI a N2 _ x7 3 x3) (cwV 3 hts (gV kml_N_65 kim_N_set ksl_N_set kin_N kcd_N_set) rfl rfl rfl (by decide +kernel) ⟨Nat.le_of_ble_eq_true rfl, Nat.le_of_ble_eq_true rfl⟩) hP hK hD hS hA rfl hl.1 rfl (Nat.le_of_ble_eq_true rfl) d_N_detach_126 ⟨Nat.zero_le _, Nat.zero_le _⟩ (fun H locs hP hD hS => ?_)
                            refine lv_iload hx hb d_N_detach_129 (lv_at hl 2 rfl) ?_
                            refine lv_istore_n (lv' := [(3, .int x7), (9, .int (j_get N2 x7 3)), (8, .int (nI i)), (7, .int x7), (6, .int x6), (5, .int (nI (u * 64 + j))), (4, .int (nI (u * 64))), (0, .ref (a 0)), (1, .int x1), (2, .int x2)]) hx hb d_N_detach_131 rfl hl (by decide) rfl (fun ls hl => ?_)
                            refine lv_aload_n hx hb d_N_detach_132 rfl (lv_at hl 7 rfl) ?_
                            refine va_get (D := (dC, dI)) (ci := 1) (v := .ref (a 3)) (C := R_N) (T := T_N) (N := 11) hx hb hts in_N hown hK hP 0 rfl rfl 2 (by decide) (hts _ kfl_N_28) (fun _ h9 => h9) rfl d_N_detach_133 ?_
                            refine lv_iload_n hx hb d_N_detach_136 rfl (lv_at hl 8 rfl) ?_
                            refine lv_dup2_11 hx hb d_N_detach_137 rfl rfl ?_
                            refine va_iald hx hb hK hP 3 0 rfl rfl (lt_of_in c38 (Int32.not_le.mpr c47) (by decide)) d_N_detach_138 ?_
                            refine lv_iconst (v := 1) hx hb d_N_detach_139 (by decide) ?_
                            refine lv_isub hx hb d_N_detach_140 ?_
                            refine nAst3 hx hb hK hP hD hS (lt_of_in c38 (Int32.not_le.mpr c47) (by decide)) d_N_detach_141 (fun H locs hP hD hS => ?_)
                            refine lv_goto (tgt := 158) hx hb d_N_detach_142 (by decide) ?_
                            refine lv_iload hx hb d_N_detach_158 (lv_at hl 1 rfl) ?_
                            refine lv_istore (lv' := [(7, .int (j_get N2 x7 3)), (3, .int x7), (9, .int (j_get N2 x7 3)), (8, .int (nI i)), (6, .int x6), (5, .int (nI (u * 64 + j))), (4, .int (nI (u * 64))), (0, .ref (a 0)), (1, .int x1), (2, .int x2)]) hx hb d_N_detach_160 hl (by decide) rfl (fun ls hl => ?_)
                            refine lv_iinc (v := ((nI i) + 1)) (lv' := [(8, .int ((nI i) + 1)), (7, .int (j_get N2 x7 3)), (3, .int x7), (9, .int (j_get N2 x7 3)), (6, .int x6), (5, .int (nI (u * 64 + j))), (4, .int (nI (u * 64))), (0, .ref (a 0)), (1, .int x1), (2, .int x2)]) hx hb d_N_detach_162 hl (k := 3) rfl rfl (by decide) rfl (fun ls hl => ?_)
                            refine lv_goto (tgt := 67) hx hb d_N_detach_165 (by decide) ?_
                            rw [nI_1] at hl
                            exact ih2 _ (i + 1) _ _ _ H locs (by omega) (by rw [hr0]; (first | (simp only [j_detachC, c72, c77, c102, if_pos c118, Int32.not_le.mp c72, if_true, if_false, not_true_eq_false, not_false_eq_true, true_and, and_true, false_and, and_false, true_or, or_true, false_or, or_false, ite_true, ite_false, eq_self]; done) | (simp only [j_detachC, c72, c77, c102, c118, Int32.not_le.mp c72, if_true, if_false, not_true_eq_false, not_false_eq_true, true_and, and_true, false_and, and_false, true_or, or_true, false_or, or_false, ite_true, ite_false, eq_self]; done) | (simp only [j_detachC, c72, c77, c102, Int32.not_le.mp c72, if_true, if_false, not_true_eq_false, not_false_eq_true, true_and, and_true, false_and, and_false, true_or, or_true, false_or, or_false, ite_true, ite_false, eq_self]; rw [if_pos c118]; done) | (simp only [j_detachC, c72, c77, c102, if_pos c118, Int32.not_le.mp c72, if_true, if_false, not_true_eq_false, not_false_eq_true, true_and, and_true, false_and, and_false, true_or, or_true, false_or, or_false, ite_true, ite_false, eq_self]; simp only [uq_0_1, uq_0_2, uq_0_3, uq_0_4, uq_0_5, uq_1_0, uq_1_2, uq_1_3, uq_1_4, uq_1_5, uq_2_0, uq_2_1, uq_2_3, uq_2_4, uq_2_5, uq_3_0, uq_3_1, uq_3_2, uq_3_4, uq_3_5, uq_4_0, uq_4_1, uq_4_2, uq_4_3, uq_4_5, uq_5_0, uq_5_1, uq_5_2, uq_5_3, uq_5_4, uf_0_0, uf_0_1, uf_0_2, uf_0_3, uf_0_4, uf_0_5, uf_1_0, uf_1_1, uf_1_2, uf_1_3, uf_1_4, uf_1_5, uf_2_0, uf_2_1, uf_2_2, uf_2_3, uf_2_4, uf_2_5, uf_3_0, uf_3_1, uf_3_2, uf_3_3, uf_3_4, uf_3_5, uf_4_0, uf_4_1, uf_4_2, uf_4_3, uf_4_4, uf_4_5, uf_5_0, uf_5_1, uf_5_2, uf_5_3, uf_5_4, uf_5_5, js_0, js_2, js_3, js_4, js_5]; done) | (simp only [j_detachC, uq_0_1, uq_0_2, uq_0_3, uq_0_4, uq_0_5, uq_1_0, uq_1_2, uq_1_3, uq_1_4, uq_1_5, uq_2_0, uq_2_1, uq_2_3, uq_2_4, uq_2_5, uq_3_0, uq_3_1, uq_3_2, uq_3_4, uq_3_5, uq_4_0, uq_4_1, uq_4_2, uq_4_3, uq_4_5, uq_5_0, uq_5_1, uq_5_2, uq_5_3, uq_5_4, uf_0_0, uf_0_1, uf_0_2, uf_0_3, uf_0_4, uf_0_5, uf_1_0, uf_1_1, uf_1_2, uf_1_3, uf_1_4, uf_1_5, uf_2_0, uf_2_1, uf_2_2, uf_2_3, uf_2_4, uf_2_5, uf_3_0, uf_3_1, uf_3_2, uf_3_3, uf_3_4, uf_3_5, uf_4_0, uf_4_1, uf_4_2, uf_4_3, uf_4_4, uf_4_5, uf_5_0, uf_5_1, uf_5_2, uf_5_3, uf_5_4, uf_5_5, js_0, js_2, js_3, js_4, js_5, c72, c77, c102, if_pos c118, Int32.not_le.mp c72, if_true, if_false, not_true_eq_false, not_false_eq_true, true_and, and_true, false_and, and_false, true_or, or_true, false_or, or_false, ite_true, ite_false, eq_self]; done) | (simp only [j_detachC, uq_0_1, uq_0_2, uq_0_3, uq_0_4, uq_0_5, uq_1_0, uq_1_2, uq_1_3, uq_1_4, uq_1_5, uq_2_0, uq_2_1, uq_2_3, uq_2_4, uq_2_5, uq_3_0, uq_3_1, uq_3_2, uq_3_4, uq_3_5, uq_4_0, uq_4_1, uq_4_2, uq_4_3, uq_4_5, uq_5_0, uq_5_1, uq_5_2, uq_5_3, uq_5_4, uf_0_0, uf_0_1, uf_0_2, uf_0_3, uf_0_4, uf_0_5, uf_1_0, uf_1_1, uf_1_2, uf_1_3, uf_1_4, uf_1_5, uf_2_0, uf_2_1, uf_2_2, uf_2_3, uf_2_4, uf_2_5, uf_3_0, uf_3_1, uf_3_2, uf_3_3, uf_3_4, uf_3_5, uf_4_0, uf_4_1, uf_4_2, uf_4_3, uf_4_4, uf_4_5, uf_5_0, uf_5_1, uf_5_2, uf_5_3, uf_5_4, uf_5_5, js_0, js_2, js_3, js_4, js_5, c72, c77, c102, c118, Int32.not_le.mp c72, if_true, if_false, not_true_eq_false, not_false_eq_true, true_and, and_true, false_and, and_false, true_or, or_true, false_or, or_false, ite_true, ite_false, eq_self]; done) | (simp only [j_detachC, c72, c77, c102, c118, Int32.not_le.mp c72, if_true, if_false, not_true_eq_false, not_false_eq_true, true_and, and_true, false_and, and_false, true_or, or_true, false_or, or_false, ite_true, ite_false, eq_self]; simp only [uq_0_1, uq_0_2, uq_0_3, uq_0_4, uq_0_5, uq_1_0, uq_1_2, uq_1_3, uq_1_4, uq_1_5, uq_2_0, uq_2_1, uq_2_3, uq_2_4, uq_2_5, uq_3_0, uq_3_1, uq_3_2, uq_3_4, uq_3_5, uq_4_0, uq_4_1, uq_4_2, uq_4_3, uq_4_5, uq_5_0, uq_5_1, uq_5_2, uq_5_3, uq_5_4, uf_0_0, uf_0_1, uf_0_2, uf_0_3, uf_0_4, uf_0_5, uf_1_0, uf_1_1, uf_1_2, uf_1_3, uf_1_4, uf_1_5, uf_2_0, uf_2_1, uf_2_2, uf_2_3, uf_2_4, uf_2_5, uf_3_0, uf_3_1, uf_3_2, uf_3_3, uf_3_4, uf_3_5, uf_4_0, uf_4_1, uf_4_2, uf_4_3, uf_4_4, uf_4_5, uf_5_0, uf_5_1, uf_5_2, uf_5_3, uf_5_4, uf_5_5, js_0, js_2, js_3, js_4, js_5]; done))) hP hD hS ls (lv_sub hl [0, 1, 4, 5, 6, 2, 7, 8, 9] rfl)
                exact loop2 24800 _ 0 _ _ _ H locs rfl (by rw [hr0, j_detachH]; simp only [c19, c24, c34, c38, c47, Int32.not_le.mp c19, Int32.not_lt.mp c24, Int32.not_le.mp c34, Int32.not_lt.mp c38, Int32.not_le.mpr c47, if_true, if_false, not_true_eq_false, not_false_eq_true, true_and, and_true, false_and, and_false, true_or, or_true, false_or, or_false, ite_true, ite_false, eq_self]) hP hD hS ls (lv_sub hl [0, 1, 2, 3, 4, 5, 6, 7, 8] rfl)
              · refine lv_iload_n hx hb d_N_detach_50 rfl (lv_at hl 2 rfl) ?_
                have hP9 : va_P (dC, dI) cls0 (nW cI a ((j_detach N x1 x2).1)) _ := (show N1 = (j_detach N x1 x2).1 from by rw [hr0]; simp only [j_detachH, c19, c24, c34, c38, c47, Int32.not_le.mp c19, Int32.not_lt.mp c24, Int32.not_le.mp c34, Int32.not_lt.mp c38, Int32.not_lt.mp c47, if_true, if_false, not_true_eq_false, not_false_eq_true, true_and, and_true, false_and, and_false, true_or, or_true, false_or, or_false, ite_true, ite_false, eq_self]) ▸ hP
                have hD9 : va_D A (nW cI a ((j_detach N x1 x2).1)) := (show N1 = (j_detach N x1 x2).1 from by rw [hr0]; simp only [j_detachH, c19, c24, c34, c38, c47, Int32.not_le.mp c19, Int32.not_lt.mp c24, Int32.not_le.mp c34, Int32.not_lt.mp c38, Int32.not_lt.mp c47, if_true, if_false, not_true_eq_false, not_false_eq_true, true_and, and_true, false_and, and_false, true_or, or_true, false_or, or_false, ite_true, ite_false, eq_self]) ▸ hD
                exact W.iret (v := x3) hx hb hr (fun t ht hW => ⟨⟨x3, (), rfl, (show x3 = (j_detach N x1 x2).2 from by rw [hr0]; simp only [j_detachH, c19, c24, c34, c38, c47, Int32.not_le.mp c19, Int32.not_lt.mp c24, Int32.not_le.mp c34, Int32.not_lt.mp c38, Int32.not_lt.mp c47, if_true, if_false, not_true_eq_false, not_false_eq_true, true_and, and_true, false_and, and_false, true_or, or_true, false_or, or_false, ite_true, ite_false, eq_self]), by rw [ht]; exact hP9, va_K.moved hW.alike hK, hD9⟩, hS.F ht⟩) hS.2.2 d_N_detach_51
  refine lv_iconst (v := 0) hx hb d_N_detach_0 (by decide) ?_
  refine lv_istore_n (lv' := [(3, .int 0), (0, .ref (a 0)), (1, .int x1), (2, .int x2)]) hx hb d_N_detach_1 rfl hl (by decide) rfl (fun ls hl => ?_)
  refine lv_iload_n hx hb d_N_detach_2 rfl (lv_at hl 2 rfl) ?_
  refine lv_bipush (v := 64) hx hb d_N_detach_3 (by decide) ?_
  refine lv_imul hx hb d_N_detach_5 ?_
  refine lv_istore (lv' := [(4, .int (x1 * 64)), (3, .int 0), (0, .ref (a 0)), (1, .int x1), (2, .int x2)]) hx hb d_N_detach_6 hl (by decide) rfl (fun ls hl => ?_)
  refine lv_iload hx hb d_N_detach_8 (lv_at hl 0 rfl) ?_
  refine lv_istore (lv' := [(5, .int (x1 * 64)), (4, .int (x1 * 64)), (3, .int 0), (0, .ref (a 0)), (1, .int x1), (2, .int x2)]) hx hb d_N_detach_10 hl (by decide) rfl (fun ls hl => ?_)
  have ef : x1 * 64 = nI (u * 64) := by rw [hx1, show (64 : Int32) = nI 64 from rfl, pk_mul]
  rw [ef] at hl
  exact loop 64 _ 0 _ s.heap [] rfl (by unfold j_detach; rw [ef]; rfl) hP hD hS ls (lv_sub hl [0, 1, 2, 3, 4, 5] rfl)

set_option maxHeartbeats 4000000 in
set_option maxRecDepth 100000 in
/-- N_faults -/
theorem c_N_faults (l : Launch) (dC : Nat → ClassId) (dI : Nat → Nat → Nat) (cI : ClassId) (a : Nat → Nat) (N : Mm) : Met l y_N_faults (.code y_N_faults b_N_faults 5 (some .int) :: W0) ({ frames := 3, cells := 0, slots := 0, locals := 70 } : Room) (va_Pc [.ref (a 0)] (nR dC dI cI a N)) (QcRead (j_faults N)) 0 0 (fun _ => False) := by
  refine Met.ofW (cc := b_N_faults) (maxL := 5) (ret := (some .int)) (by decide) rfl ?_
  intro p e s m args below meth c s₁ B hml hv
  obtain ⟨rfl, hP, hK⟩ := hv
  have hx := B.exec
  have hb := B.bytes
  have hr := B.returns
  have hts1 := atoms_spec (ws := .code y_N_faults b_N_faults 5 (some .int) :: W0) B.pre
  have hts : ∀ w ∈ W0, w.before _ s = true := fun w h => hts1 w (List.mem_cons_of_mem _ h)
  have hown : s.vm.findClass R_N = some m.cls := findClass_of_methodNamed B.named
  have hlocks := B.notSynchronized
  have hl := lv_entry ([.ref (a 0)]) (n := 5) (Nat.le_of_ble_eq_true rfl)
  rw [lg_entry_eq]
  generalize (lg_sl ([.ref (a 0)]) ++ List.replicate (5 - (lg_sl ([.ref (a 0)])).length) Slot.unset).toArray = ls at hl ⊢
  have hl : lv_has ls 5 [(0, .ref (a 0))] := hl
  have loop : ∀ (n : Nat) (j : Nat) (x1 : Int32), j + n = 768 → j_faults N = j_faultsH N n (nI j) x1 → ∀ (ls : Array Slot), lv_has ls 5 [(2, .int (nI j)), (1, .int x1), (0, .ref (a 0))] → W p l e (headSpec (.code y_N_faults b_N_faults 5 (some .int) :: W0) ({ frames := 3, cells := 0, slots := 0, locals := 70 } : Room)).room s m ([.ref (a 0)] : List Value).toArray below meth c s.heap [] 0 0 (MQ below (QcRead (j_faults N)) ([.ref (a 0)] : List Value).toArray s 0 0 (fun _ => False)) (F0 m 4 ls []) := by
    intro n
    induction n with
    | zero =>
      intro j x1 hj hr0 ls hl
      refine lv_iload_n hx hb d_N_faults_4 rfl (lv_at hl 0 rfl) ?_
      refine lv_aload_n hx hb d_N_faults_5 rfl (lv_at hl 2 rfl) ?_
      refine va_get (D := (dC, dI)) (ci := 1) (v := .ref (a 2)) (C := R_N) (T := T_N) (N := 11) hx hb hts in_N hown hK hP 0 rfl rfl 1 (by decide) (hts _ kfl_N_25) (fun _ h9 => h9) rfl d_N_faults_6 ?_
      refine va_alen (v := nI 768) hx hb hK hP 2 0 rfl rfl rfl d_N_faults_9 ?_
      refine lv_icmp_ge (tgt := 74) hx hb d_N_faults_10 (by decide) (fun c10 => ?_) (fun c10 => ?_)
      · refine lv_iload_n hx hb d_N_faults_74 rfl (lv_at hl 1 rfl) ?_
        exact W.iret (v := x1) hx hb hr (fun t ht hW => ⟨by rw [show j_faults N = x1 from by rw [hr0]; simp only [j_faultsH, c10, Int32.not_lt.mpr c10, if_true, if_false, not_true_eq_false, not_false_eq_true, true_and, and_true, false_and, and_false, true_or, or_true, false_or, or_false, ite_true, ite_false, eq_self]], ht⟩) (fun q h => by cases h) d_N_faults_75
      · exact absurd (nI_le (a := 768) (b := j) (by omega) (by omega)) c10
    | succ n ih =>
      intro j x1 hj hr0 ls hl
      refine lv_iload_n hx hb d_N_faults_4 rfl (lv_at hl 0 rfl) ?_
      refine lv_aload_n hx hb d_N_faults_5 rfl (lv_at hl 2 rfl) ?_
      refine va_get (D := (dC, dI)) (ci := 1) (v := .ref (a 2)) (C := R_N) (T := T_N) (N := 11) hx hb hts in_N hown hK hP 0 rfl rfl 1 (by decide) (hts _ kfl_N_25) (fun _ h9 => h9) rfl d_N_faults_6 ?_
      refine va_alen (v := nI 768) hx hb hK hP 2 0 rfl rfl rfl d_N_faults_9 ?_
      refine lv_icmp_ge (tgt := 74) hx hb d_N_faults_10 (by decide) (fun c10 => ?_) (fun c10 => ?_)
      · exact absurd c10 (nI_ge (a := j) (b := 768) (by omega) (by omega))
      · refine lv_aload_n hx hb d_N_faults_13 rfl (lv_at hl 2 rfl) ?_
        refine va_get (D := (dC, dI)) (ci := 1) (v := .ref (a 2)) (C := R_N) (T := T_N) (N := 11) hx hb hts in_N hown hK hP 0 rfl rfl 1 (by decide) (hts _ kfl_N_25) (fun _ h9 => h9) rfl d_N_faults_14 ?_
        refine lv_iload_n hx hb d_N_faults_17 rfl (lv_at hl 0 rfl) ?_
        refine va_iald hx hb hK hP 2 0 rfl rfl (vp_in_nI (by omega) (by decide)) d_N_faults_18 ?_
        refine lv_istore_n (lv' := [(3, .int (N 2 (nI j).toNatClampNeg)), (2, .int (nI j)), (1, .int x1), (0, .ref (a 0))]) hx hb d_N_faults_19 rfl hl (by decide) rfl (fun ls hl => ?_)
        refine lv_iconst (v := 0) hx hb d_N_faults_20 (by decide) ?_
        refine lv_istore (lv' := [(4, .int 0), (3, .int (N 2 (nI j).toNatClampNeg)), (2, .int (nI j)), (1, .int x1), (0, .ref (a 0))]) hx hb d_N_faults_21 hl (by decide) rfl (fun ls hl => ?_)
        have loop2 : ∀ (n2 : Nat) (i : Nat) (x1 x3 : Int32), i + n2 = 24800 → j_faults N = j_faultsH N n (nI j + 1) (j_faultsC N (nI j) n2 x1 x3) → ∀ (ls : Array Slot), lv_has ls 5 [(4, .int (nI i)), (3, .int x3), (2, .int (nI j)), (1, .int x1), (0, .ref (a 0))] → W p l e (headSpec (.code y_N_faults b_N_faults 5 (some .int) :: W0) ({ frames := 3, cells := 0, slots := 0, locals := 70 } : Room)).room s m ([.ref (a 0)] : List Value).toArray below meth c s.heap [] 0 0 (MQ below (QcRead (j_faults N)) ([.ref (a 0)] : List Value).toArray s 0 0 (fun _ => False)) (F0 m 23 ls []) := by
          intro n2
          induction n2 with
          | zero =>
            intro i x1 x3 hi hr0 ls hl
            refine lv_iload hx hb d_N_faults_23 (lv_at hl 0 rfl) ?_
            refine lv_sipush (v := 24800) hx hb d_N_faults_25 (by decide) ?_
            refine lv_icmp_ge (tgt := 68) hx hb d_N_faults_28 (by decide) (fun c28 => ?_) (fun c28 => ?_)
            · refine lv_iinc (v := ((nI j) + 1)) (lv' := [(2, .int ((nI j) + 1)), (4, .int (nI i)), (3, .int x3), (1, .int x1), (0, .ref (a 0))]) hx hb d_N_faults_68 hl (k := 2) rfl rfl (by decide) rfl (fun ls hl => ?_)
              refine lv_goto (tgt := 4) hx hb d_N_faults_71 (by decide) ?_
              rw [nI_1] at hl
              exact ih (j + 1) _ (by omega) (by rw [hr0, nI_1]; simp only [j_faultsC, c28, Int32.not_lt.mpr c28, if_true, if_false, not_true_eq_false, not_false_eq_true, true_and, and_true, false_and, and_false, true_or, or_true, false_or, or_false, ite_true, ite_false, eq_self]) ls (lv_sub hl [0, 3, 4] rfl)
            · exact absurd (nI_le (a := 24800) (b := i) (by omega) (by omega)) c28
          | succ n2 ih2 =>
            intro i x1 x3 hi hr0 ls hl
            refine lv_iload hx hb d_N_faults_23 (lv_at hl 0 rfl) ?_
            refine lv_sipush (v := 24800) hx hb d_N_faults_25 (by decide) ?_
            refine lv_icmp_ge (tgt := 68) hx hb d_N_faults_28 (by decide) (fun c28 => ?_) (fun c28 => ?_)
            · exact absurd c28 (nI_ge (a := i) (b := 24800) (by omega) (by omega))
            · refine lv_iload_n hx hb d_N_faults_31 rfl (lv_at hl 1 rfl) ?_
              refine lv_if_eq (tgt := 68) hx hb d_N_faults_32 (by decide) (fun c32 => ?_) (fun c32 => ?_)
              · refine lv_iinc (v := ((nI j) + 1)) (lv' := [(2, .int ((nI j) + 1)), (4, .int (nI i)), (3, .int x3), (1, .int x1), (0, .ref (a 0))]) hx hb d_N_faults_68 hl (k := 2) rfl rfl (by decide) rfl (fun ls hl => ?_)
                refine lv_goto (tgt := 4) hx hb d_N_faults_71 (by decide) ?_
                rw [nI_1] at hl
                exact ih (j + 1) _ (by omega) (by rw [hr0, nI_1]; (first | (simp only [j_faultsC, c28, if_pos c32, Int32.not_le.mp c28, if_true, if_false, not_true_eq_false, not_false_eq_true, true_and, and_true, false_and, and_false, true_or, or_true, false_or, or_false, ite_true, ite_false, eq_self]; done) | (simp only [j_faultsC, c28, c32, Int32.not_le.mp c28, if_true, if_false, not_true_eq_false, not_false_eq_true, true_and, and_true, false_and, and_false, true_or, or_true, false_or, or_false, ite_true, ite_false, eq_self]; done) | (simp only [j_faultsC, c28, Int32.not_le.mp c28, if_true, if_false, not_true_eq_false, not_false_eq_true, true_and, and_true, false_and, and_false, true_or, or_true, false_or, or_false, ite_true, ite_false, eq_self]; rw [if_pos c32]; done))) ls (lv_sub hl [0, 3, 4] rfl)
              · refine lv_aload_n hx hb d_N_faults_35 rfl (lv_at hl 4 rfl) ?_
                refine lv_iload_n hx hb d_N_faults_36 rfl (lv_at hl 1 rfl) ?_
                refine lv_iload_n hx hb d_N_faults_37 rfl (lv_at hl 2 rfl) ?_
                refine nCallR (As := [.int x3, .int (nI j)]) (rest := []) ⟨hx, hb, hml, hown, hts⟩ (c_N_isMisplaced l dC dI cI a N x3 (nI j)) (cwV 2 hts (gV kml_N_133 kim_N_isMisplaced ksl_N_isMisplaced kin_N kcd_N_isMisplaced) rfl rfl rfl (by decide +kernel) ⟨Nat.le_of_ble_eq_true rfl, Nat.le_of_ble_eq_true rfl⟩) hP hK rfl hl.1 rfl (Nat.le_of_ble_eq_true rfl) d_N_faults_38 ⟨Nat.zero_le _, Nat.zero_le _⟩ ?_
                refine lv_if_ne (tgt := 52) hx hb d_N_faults_41 (by decide) (fun c41 => ?_) (fun c41 => ?_)
                · refine lv_iinc (v := (x1 + 1)) (lv' := [(1, .int (x1 + 1)), (4, .int (nI i)), (3, .int x3), (2, .int (nI j)), (0, .ref (a 0))]) hx hb d_N_faults_52 hl (k := 3) rfl rfl (by decide) rfl (fun ls hl => ?_)
                  refine lv_aload_n hx hb d_N_faults_55 rfl (lv_at hl 4 rfl) ?_
                  refine lv_iload_n hx hb d_N_faults_56 rfl (lv_at hl 2 rfl) ?_
                  refine lv_iconst (v := 3) hx hb d_N_faults_57 (by decide) ?_
                  refine nCallR (As := [.int x3, .int 3]) (rest := []) ⟨hx, hb, hml, hown, hts⟩ (c_N_get l dC dI cI a N x3 3) (cwV 2 hts (gV kml_N_46 kim_N_get ksl_N_get kin_N kcd_N_get) rfl rfl rfl (by decide +kernel) ⟨Nat.le_of_ble_eq_true rfl, Nat.le_of_ble_eq_true rfl⟩) hP hK rfl hl.1 rfl (Nat.le_of_ble_eq_true rfl) d_N_faults_58 ⟨Nat.zero_le _, Nat.zero_le _⟩ ?_
                  refine lv_istore_n (lv' := [(3, .int (j_get N x3 3)), (1, .int (x1 + 1)), (4, .int (nI i)), (2, .int (nI j)), (0, .ref (a 0))]) hx hb d_N_faults_61 rfl hl (by decide) rfl (fun ls hl => ?_)
                  refine lv_iinc (v := ((nI i) + 1)) (lv' := [(4, .int ((nI i) + 1)), (3, .int (j_get N x3 3)), (1, .int (x1 + 1)), (2, .int (nI j)), (0, .ref (a 0))]) hx hb d_N_faults_62 hl (k := 2) rfl rfl (by decide) rfl (fun ls hl => ?_)
                  refine lv_goto (tgt := 23) hx hb d_N_faults_65 (by decide) ?_
                  rw [nI_1] at hl
                  exact ih2 (i + 1) _ _ (by omega) (by rw [hr0]; simp only [j_faultsC, c28, c32, c41, Int32.not_le.mp c28, if_true, if_false, not_true_eq_false, not_false_eq_true, true_and, and_true, false_and, and_false, true_or, or_true, false_or, or_false, ite_true, ite_false, eq_self]) ls (lv_sub hl [0, 1, 3, 2, 4] rfl)
                · refine lv_aload_n hx hb d_N_faults_44 rfl (lv_at hl 4 rfl) ?_
                  refine lv_iload_n hx hb d_N_faults_45 rfl (lv_at hl 1 rfl) ?_
                  refine nCallR (As := [.int x3]) (rest := []) ⟨hx, hb, hml, hown, hts⟩ (c_N_isThereTwice l dC dI cI a N x3) (cwV 1 hts (gV kml_N_137 kim_N_isThereTwice ksl_N_isThereTwice kin_N kcd_N_isThereTwice) rfl rfl rfl (by decide +kernel) ⟨Nat.le_of_ble_eq_true rfl, Nat.le_of_ble_eq_true rfl⟩) hP hK rfl hl.1 rfl (Nat.le_of_ble_eq_true rfl) d_N_faults_46 ⟨Nat.zero_le _, Nat.zero_le _⟩ ?_
                  refine lv_if_eq (tgt := 55) hx hb d_N_faults_49 (by decide) (fun c49 => ?_) (fun c49 => ?_)
                  · refine lv_aload_n hx hb d_N_faults_55 rfl (lv_at hl 4 rfl) ?_
                    refine lv_iload_n hx hb d_N_faults_56 rfl (lv_at hl 1 rfl) ?_
                    refine lv_iconst (v := 3) hx hb d_N_faults_57 (by decide) ?_
                    refine nCallR (As := [.int x3, .int 3]) (rest := []) ⟨hx, hb, hml, hown, hts⟩ (c_N_get l dC dI cI a N x3 3) (cwV 2 hts (gV kml_N_46 kim_N_get ksl_N_get kin_N kcd_N_get) rfl rfl rfl (by decide +kernel) ⟨Nat.le_of_ble_eq_true rfl, Nat.le_of_ble_eq_true rfl⟩) hP hK rfl hl.1 rfl (Nat.le_of_ble_eq_true rfl) d_N_faults_58 ⟨Nat.zero_le _, Nat.zero_le _⟩ ?_
                    refine lv_istore_n (lv' := [(3, .int (j_get N x3 3)), (4, .int (nI i)), (2, .int (nI j)), (1, .int x1), (0, .ref (a 0))]) hx hb d_N_faults_61 rfl hl (by decide) rfl (fun ls hl => ?_)
                    refine lv_iinc (v := ((nI i) + 1)) (lv' := [(4, .int ((nI i) + 1)), (3, .int (j_get N x3 3)), (2, .int (nI j)), (1, .int x1), (0, .ref (a 0))]) hx hb d_N_faults_62 hl (k := 1) rfl rfl (by decide) rfl (fun ls hl => ?_)
                    refine lv_goto (tgt := 23) hx hb d_N_faults_65 (by decide) ?_
                    rw [nI_1] at hl
                    exact ih2 (i + 1) _ _ (by omega) (by rw [hr0]; (first | (simp only [j_faultsC, c28, c32, if_pos c41, if_pos c49, Int32.not_le.mp c28, if_true, if_false, not_true_eq_false, not_false_eq_true, true_and, and_true, false_and, and_false, true_or, or_true, false_or, or_false, ite_true, ite_false, eq_self]; done) | (simp only [j_faultsC, c28, c32, c41, c49, Int32.not_le.mp c28, if_true, if_false, not_true_eq_false, not_false_eq_true, true_and, and_true, false_and, and_false, true_or, or_true, false_or, or_false, ite_true, ite_false, eq_self]; done) | (simp only [j_faultsC, c28, c32, Int32.not_le.mp c28, if_true, if_false, not_true_eq_false, not_false_eq_true, true_and, and_true, false_and, and_false, true_or, or_true, false_or, or_false, ite_true, ite_false, eq_self]; rw [if_pos c41, if_pos c49]; done))) ls (lv_sub hl [0, 1, 2, 3, 4] rfl)
                  · refine lv_iinc (v := (x1 + 1)) (lv' := [(1, .int (x1 + 1)), (4, .int (nI i)), (3, .int x3), (2, .int (nI j)), (0, .ref (a 0))]) hx hb d_N_faults_52 hl (k := 3) rfl rfl (by decide) rfl (fun ls hl => ?_)
                    refine lv_aload_n hx hb d_N_faults_55 rfl (lv_at hl 4 rfl) ?_
                    refine lv_iload_n hx hb d_N_faults_56 rfl (lv_at hl 2 rfl) ?_
                    refine lv_iconst (v := 3) hx hb d_N_faults_57 (by decide) ?_
                    refine nCallR (As := [.int x3, .int 3]) (rest := []) ⟨hx, hb, hml, hown, hts⟩ (c_N_get l dC dI cI a N x3 3) (cwV 2 hts (gV kml_N_46 kim_N_get ksl_N_get kin_N kcd_N_get) rfl rfl rfl (by decide +kernel) ⟨Nat.le_of_ble_eq_true rfl, Nat.le_of_ble_eq_true rfl⟩) hP hK rfl hl.1 rfl (Nat.le_of_ble_eq_true rfl) d_N_faults_58 ⟨Nat.zero_le _, Nat.zero_le _⟩ ?_
                    refine lv_istore_n (lv' := [(3, .int (j_get N x3 3)), (1, .int (x1 + 1)), (4, .int (nI i)), (2, .int (nI j)), (0, .ref (a 0))]) hx hb d_N_faults_61 rfl hl (by decide) rfl (fun ls hl => ?_)
                    refine lv_iinc (v := ((nI i) + 1)) (lv' := [(4, .int ((nI i) + 1)), (3, .int (j_get N x3 3)), (1, .int (x1 + 1)), (2, .int (nI j)), (0, .ref (a 0))]) hx hb d_N_faults_62 hl (k := 2) rfl rfl (by decide) rfl (fun ls hl => ?_)
                    refine lv_goto (tgt := 23) hx hb d_N_faults_65 (by decide) ?_
                    rw [nI_1] at hl
                    exact ih2 (i + 1) _ _ (by omega) (by rw [hr0]; (first | (simp only [j_faultsC, c28, c32, if_pos c41, c49, Int32.not_le.mp c28, if_true, if_false, not_true_eq_false, not_false_eq_true, true_and, and_true, false_and, and_false, true_or, or_true, false_or, or_false, ite_true, ite_false, eq_self]; done) | (simp only [j_faultsC, c28, c32, c41, c49, Int32.not_le.mp c28, if_true, if_false, not_true_eq_false, not_false_eq_true, true_and, and_true, false_and, and_false, true_or, or_true, false_or, or_false, ite_true, ite_false, eq_self]; done) | (simp only [j_faultsC, c28, c32, c49, Int32.not_le.mp c28, if_true, if_false, not_true_eq_false, not_false_eq_true, true_and, and_true, false_and, and_false, true_or, or_true, false_or, or_false, ite_true, ite_false, eq_self]; rw [if_pos c41]; done))) ls (lv_sub hl [0, 1, 3, 2, 4] rfl)
        exact loop2 24800 0 _ _ rfl (by rw [hr0, j_faultsH]) ls (lv_sub hl [0, 1, 2, 3, 4] rfl)
  refine lv_iconst (v := 0) hx hb d_N_faults_0 (by decide) ?_
  refine lv_istore_n (lv' := [(1, .int 0), (0, .ref (a 0))]) hx hb d_N_faults_1 rfl hl (by decide) rfl (fun ls hl => ?_)
  refine lv_iconst (v := 0) hx hb d_N_faults_2 (by decide) ?_
  refine lv_istore_n (lv' := [(2, .int 0), (1, .int 0), (0, .ref (a 0))]) hx hb d_N_faults_3 rfl hl (by decide) rfl (fun ls hl => ?_)
  exact loop 768 0 _ rfl rfl ls (lv_sub hl [0, 1, 2] rfl)
end
section
/-! Arrays.copyOf(int[], int), where the copy is longer -/
theorem kml_JA_150 : Cond.methodLink R_JA 150 arraycopyName ∈ W0 := W0_in (List.mem_of_getElem? (i := 327) (by decide +kernel)) (by decide +kernel)
theorem kst_copy : Cond.static arraycopyName ∈ W0 := W0_in (List.mem_of_getElem? (i := 328) (by decide +kernel)) (by decide +kernel)
theorem knt_copy : Cond.native arraycopyName ∈ W0 := W0_in (List.mem_of_getElem? (i := 329) (by decide +kernel)) (by decide +kernel)
theorem va_K_same {D : va_G} {cl : List vw_C} {c1 c2 : ClassId} {U : State} (h : va_K D cl [(c1, .int), (c2, .int)] U) : c2 = c1 := by
  have h1 : U.vm.findClass ("[" ++ FieldType.int.toString) = some c1 := (h.2 0 _ rfl).2
  have h2 : U.vm.findClass ("[" ++ FieldType.int.toString) = some c2 := (h.2 1 _ rfl).2
  exact Option.some.inj (h2.symm.trans h1)
set_option maxHeartbeats 4000000 in
set_option maxRecDepth 100000 in
theorem c_JA_copyOf (l : Launch) (dC : Nat → ClassId) (dI : Nat → Nat → Nat) (cI : ClassId) (r n0 K : Nat) (f : Nat → Int32) (sz : Nat) (hn : n0 < K) (hK1 : K ≤ 124000) : Met l y_JA_copyOf (.code y_JA_copyOf b_JA_copyOf 3 (some (.array .int)) :: W0) ({ frames := 1, cells := 1, slots := K, locals := 60 } : Room) (va_Pc [.ref r, .int (nI K)] (fun U => U.heap.size = sz ∧ va_P (dC, dI) cls0 [(r, .inl (cI, n0, .inl f))] U.heap ∧ va_K (dC, dI) cls0 [(cI, .int)] U ∧ va_D (fun _ => True) [(r, .inl (cI, n0, .inl f))]))
    (va_Qr (fun _ : Unit => True) (fun _ q t => va_P (dC, dI) cls0 [(r, .inl (cI, n0, .inl f)), (q, .inl (cI, K, .inl (va_cpy f (fun _ => 0) 0 0 n0)))] t.heap ∧ va_K (dC, dI) cls0 [(cI, .int)] t ∧ va_D (va_A [(r, .inl (cI, n0, .inl f))] sz) [(r, .inl (cI, n0, .inl f)), (q, .inl (cI, K, .inl (va_cpy f (fun _ => 0) 0 0 n0)))]) (va_A [(r, .inl (cI, n0, .inl f))] sz)) 1 K (va_A [(r, .inl (cI, n0, .inl f))] sz) := by
  refine Met.ofW (cc := b_JA_copyOf) (maxL := 3) (ret := (some (.array .int))) (by decide) rfl ?_
  intro p e s m args below meth c s₁ B hml hv
  obtain ⟨rfl, hsz, hP, hK, hD0⟩ := hv
  have hx := B.exec
  have hb := B.bytes
  have hr := B.returns
  have hts1 := atoms_spec (ws := .code y_JA_copyOf b_JA_copyOf 3 (some (.array .int)) :: W0) B.pre
  have hts : ∀ w ∈ W0, w.before _ s = true := fun w h => hts1 w (List.mem_cons_of_mem _ h)
  have hown : s.vm.findClass R_JA = some m.cls := findClass_of_methodNamed B.named
  have hlocks := B.notSynchronized
  subst hsz
  have hD := hD0.self (sz := s.heap.size)
  generalize hAe : va_A [(r, Sum.inl (cI, n0, Sum.inl f))] s.heap.size = A at hD ⊢
  have hA : ∀ q : Nat, s.heap.size ≤ q → A q := fun q h => by rw [← hAe]; exact Or.inr h
  have hS : va_S A s.heap s.heap [] := va_S.rf
  have hl := lv_entry ([.ref r, .int (nI K)]) (n := 3) (Nat.le_of_ble_eq_true rfl)
  rw [lg_entry_eq]
  generalize (lg_sl ([.ref r, .int (nI K)]) ++ List.replicate (3 - (lg_sl ([.ref r, .int (nI K)])).length) Slot.unset).toArray = ls at hl ⊢
  have hl : lv_has ls 3 [(0, .ref r), (1, .int (nI K))] := hl
  refine lv_iload_n hx hb d_JA_copyOf_0 rfl (lv_at hl 1 rfl) ?_
  refine lv_aload_n hx hb d_JA_copyOf_1 rfl (lv_at hl 0 rfl) ?_
  refine va_alen (v := nI n0) hx hb hK hP 0 0 rfl rfl rfl d_JA_copyOf_2 ?_
  refine lv_icmp_ne (tgt := 14) hx hb d_JA_copyOf_3 (by decide) (fun c3 => ?_) (fun c3 => ?_)
  · refine lv_iload_n hx hb d_JA_copyOf_14 rfl (lv_at hl 1 rfl) ?_
    refine va_newa (atype := .int) (N' := K) (a0 := (K, .inl (fun _ => 0))) hx hb (hts _ kac_int) rfl hK hP hD hS hA (fun _ => rfl) (nI_pos (by omega)) (nI_clamp (by omega)) (by show K * 4 ≤ 536870912; omega) (by show 0 + 1 ≤ 1; omega) (by show 0 + K ≤ K; omega) d_JA_copyOf_15 (fun q cA H hK hP hD hS => ?_)
    have hK : va_K (dC, dI) cls0 [(cI, .int), (cA, .int)] s := hK
    have hP : va_P (dC, dI) cls0 [(r, .inl (cI, n0, .inl f)), (q, .inl (cA, K, .inl (fun _ => 0)))] H := hP
    have hD : va_D A [(r, .inl (cI, n0, .inl f)), (q, .inl (cA, K, .inl (fun _ => 0)))] := hD
    have ec := va_K_same hK
    subst ec
    refine lv_astore_n (lv' := [(2, .ref q), (0, .ref r), (1, .int (nI K))]) hx hb d_JA_copyOf_17 rfl hl (by decide) rfl (fun ls hl => ?_)
    refine lv_aload_n hx hb d_JA_copyOf_18 rfl (lv_at hl 1 rfl) ?_
    refine lv_iconst (v := 0) hx hb d_JA_copyOf_19 (by decide) ?_
    refine lv_aload_n hx hb d_JA_copyOf_20 rfl (lv_at hl 0 rfl) ?_
    refine lv_iconst (v := 0) hx hb d_JA_copyOf_21 (by decide) ?_
    refine lv_aload_n hx hb d_JA_copyOf_22 rfl (lv_at hl 1 rfl) ?_
    refine va_alen (v := nI n0) hx hb hK hP 0 0 rfl rfl rfl d_JA_copyOf_23 ?_
    refine lv_iload_n hx hb d_JA_copyOf_24 rfl (lv_at hl 2 rfl) ?_
    refine nMin hx hb (hml.trans hl.1.symm) hown hts kml_JA_304 (by show 1 ≤ 1; omega) (by show _ ≤ 60; exact Nat.le_of_ble_eq_true rfl) ⟨by show 0 + 1 ≤ 1; omega, by show 0 + K ≤ K; omega⟩ d_JA_copyOf_25 ?_
    rw [show j_min (nI n0) (nI K) = nI n0 from by unfold j_min; rw [if_neg (nI_nlt (by omega) (by omega))]]
    refine va_copyi hx hb (hml.trans hl.1.symm) hown (hts _ kml_JA_150) (hts _ knt_copy) (hts _ kst_copy) (hts _ kin_JS) hK hP hD hS 0 1 0 0 rfl rfl rfl rfl rfl (by decide) (by decide) (nI_pos (by omega)) (by rw [nI_clamp (by omega)]; show 0 + n0 ≤ n0; omega) (by rw [nI_clamp (by omega)]; show 0 + n0 ≤ K; omega) (fun i _ => rfl) (by show 1 ≤ 1; omega) (by show _ ≤ 60; exact Nat.le_of_ble_eq_true rfl) d_JA_copyOf_28 (fun H locs hP hD hS => ?_)
    rw [nI_clamp (by omega)] at hP hD
    have hP : va_P (dC, dI) cls0 [(r, .inl (cA, n0, .inl f)), (q, .inl (cA, K, .inl (va_cpy f (fun _ => 0) 0 0 n0)))] H := hP
    have hD : va_D A [(r, .inl (cA, n0, .inl f)), (q, .inl (cA, K, .inl (va_cpy f (fun _ => 0) 0 0 n0)))] := hD
    refine lv_aload_n hx hb d_JA_copyOf_31 rfl (lv_at hl 0 rfl) ?_
    refine W.cs (cells' := 1) (slots' := K) (by omega) (by omega) ?_
    exact W.aret (v := .ref q) (rt := .array .int) hx hb hr (Or.inr ⟨_, rfl⟩) (Or.inr ⟨_, rfl⟩) (fun t ht hW => ⟨⟨(), q, rfl, trivial, by rw [ht]; exact hP, va_K.moved hW.alike (hK.sub [0] rfl), hD⟩, hS.F ht⟩) hS.2.2 d_JA_copyOf_32
  · exact absurd ((nI_eq (by omega) (by omega)).mp c3) (by omega)
end
section
/-! widen: the rows grow. What it costs is booked by the room it reaches. -/
def rmN (N : Mm) : Nat := (N 0 0).toNatClampNeg
def pot (r : Nat) : Nat := 10 * r + (if r = 24800 then 124000 else 0)
def mcW (N N' : Mm) : Nat := rmN N' - rmN N
def msW (N N' : Mm) : Nat := pot (rmN N') - pot (rmN N)
theorem pot_up {R0 R1 : Nat} (h : R0 < R1) (hR : R1 ≤ 24800) (h2 : 2 * R0 ≤ R1 ∨ R1 = 24800) : 5 * R1 ≤ pot R1 - pot R0 := by
  unfold pot
  rw [if_neg (by omega : ¬ R0 = 24800)]
  by_cases c : R1 = 24800
  · rw [if_pos c]; omega
  · rw [if_neg c]; omega
theorem j_max_n {a b : Nat} (ha : a < 2 ^ 31) (hb : b < 2 ^ 31) : j_max (nI a) (nI b) = nI (max a b) := by
  unfold j_max
  by_cases q : a < b
  · rw [if_pos ((nI_ltI ha hb).mpr q), Nat.max_eq_right (by omega)]
  · rw [if_neg (fun z => q ((nI_ltI ha hb).mp z)), Nat.max_eq_left (by omega)]
theorem wroom_e {N : Mm} {R0 : Nat} {x : Int32} (hR : N 0 0 = nI R0) (h2 : R0 ≤ 24800) (h1 : 1024 ≤ R0) (hg : ¬ j_min (x + 2) 24800 ≤ N 0 0) : ∃ R1, j_wroom N x = nI R1 ∧ R0 < R1 ∧ R1 ≤ 24800 ∧ (2 * R0 ≤ R1 ∨ R1 = 24800) := by
  rw [hR] at hg
  have hle : j_min (x + 2) 24800 ≤ nI 24800 := by
    unfold j_min
    by_cases c : (24800 : Int32) < x + 2
    · rw [if_pos c]; exact Int32.le_refl _
    · rw [if_neg c]; exact Int32.not_lt.mp c
  have h0 : ¬ j_min (x + 2) 24800 < 0 := fun q => hg (Int32.le_of_lt (Int32.lt_of_lt_of_le q (nI_pos' (by omega))))
  obtain ⟨k, hk, ek⟩ := nI_of2 (M := nI 24800) (n := 24800) (nI_toInt (by omega)) h0 hle
  rw [ek] at hg
  have hlt : R0 < k := by
    rcases Nat.lt_or_ge R0 k with q | q
    · exact q
    · exact absurd (nI_le q (by omega)) hg
  refine ⟨min (max k (2 * R0)) 24800, ?_, by omega, by omega, by omega⟩
  unfold j_wroom
  rw [ek, hR, show (2 : Int32) = nI 2 from rfl, pk_mul, j_max_n (by omega) (by omega), show (24800 : Int32) = nI 24800 from rfl, j_min_n (by omega) (by omega)]
set_option maxHeartbeats 4000000 in
set_option maxRecDepth 100000 in
theorem c_N_widen (l : Launch) (dC : Nat → ClassId) (dI : Nat → Nat → Nat) (cI : ClassId) (a : Nat → Nat) (N : Mm) (sz : Nat) (x1 : Int32) (R0 : Nat) (hR : N 0 0 = nI R0) (h1 : 1024 ≤ R0) (h2 : R0 ≤ 24800) : Met l y_N_widen (.code y_N_widen b_N_widen 3 none :: W0) ({ frames := 2, cells := mcW N (j_widen N x1), slots := msW N (j_widen N x1), locals := 82 } : Room) (va_Pc [.ref (a 0), .int x1] (nM dC dI cI a N sz)) (va_Qv (fun u : Nat → Nat => u 0 = a 0) (fun u t => nE dC dI cI u (j_widen N x1) (va_A (nW cI a N) sz) t) (va_A (nW cI a N) sz)) (mcW N (j_widen N x1)) (msW N (j_widen N x1)) (va_A (nW cI a N) sz) := by
  refine Met.ofW (cc := b_N_widen) (maxL := 3) (ret := none) (by decide) rfl ?_
  intro p e s m args below meth c s₁ B hml hv
  obtain ⟨rfl, hsz, hP, hK, hD0⟩ := hv
  have hx := B.exec
  have hb := B.bytes
  have hr := B.returns
  have hts1 := atoms_spec (ws := .code y_N_widen b_N_widen 3 none :: W0) B.pre
  have hts : ∀ w ∈ W0, w.before _ s = true := fun w h => hts1 w (List.mem_cons_of_mem _ h)
  have hown : s.vm.findClass R_N = some m.cls := findClass_of_methodNamed B.named
  have hlocks := B.notSynchronized
  subst hsz
  have hD := hD0.self (sz := s.heap.size)
  generalize hAe : va_A (nW cI a N) s.heap.size = A at hD ⊢
  have hA : ∀ q : Nat, s.heap.size ≤ q → A q := fun q h => by rw [← hAe]; exact Or.inr h
  have hS : va_S A s.heap s.heap [] := va_S.rf
  have hP : va_P (dC, dI) cls0 (nW cI a N) s.heap := hP
  have hl := lv_entry ([.ref (a 0), .int x1]) (n := 3) (Nat.le_of_ble_eq_true rfl)
  rw [lg_entry_eq]
  generalize (lg_sl ([.ref (a 0), .int x1]) ++ List.replicate (3 - (lg_sl ([.ref (a 0), .int x1])).length) Slot.unset).toArray = ls at hl ⊢
  have hl : lv_has ls 3 [(0, .ref (a 0)), (1, .int x1)] := hl
  refine lv_iload_n hx hb d_N_widen_0 rfl (lv_at hl 1 rfl) ?_
  refine lv_iconst (v := 2) hx hb d_N_widen_1 (by decide) ?_
  refine lv_iadd hx hb d_N_widen_2 ?_
  refine lv_sipush (v := 24800) hx hb d_N_widen_3 (by decide) ?_
  refine nMin hx hb (hml.trans hl.1.symm) hown hts kml_N_57 (Nat.le_of_ble_eq_true rfl) (Nat.le_of_ble_eq_true rfl) ⟨Nat.zero_le _, Nat.zero_le _⟩ d_N_widen_6 ?_
  refine lv_istore_n (lv' := [(2, .int (j_min (x1 + 2) 24800)), (0, .ref (a 0)), (1, .int x1)]) hx hb d_N_widen_9 rfl hl (by decide) rfl (fun ls hl => ?_)
  refine lv_iload_n hx hb d_N_widen_10 rfl (lv_at hl 0 rfl) ?_
  refine lv_aload_n hx hb d_N_widen_11 rfl (lv_at hl 1 rfl) ?_
  refine va_get (D := (dC, dI)) (ci := 1) (v := .int (N 0 0)) (C := R_N) (T := T_N) (N := 11) hx hb hts in_N hown hK hP 0 rfl rfl 5 (by decide) (hts _ kfl_N_15) (fun _ h9 => h9) rfl d_N_widen_12 ?_
  refine lv_icmp_le (tgt := 55) hx hb d_N_widen_15 (by decide) (fun c15 => ?_) (fun c15 => ?_)
  · have eW : j_widen N x1 = N := by unfold j_widen; rw [if_pos c15]
    rw [eW]
    refine W.widen (k := mcW N N) (n := msW N N) (Nat.zero_le _) (Nat.zero_le _) ?_
    exact W.vret hx hb hr (fun t ht hW => ⟨⟨a, rfl, rfl, by rw [ht]; exact hP, va_K.moved hW.alike hK, hD⟩, hS.F ht⟩) hS.2.2 d_N_widen_55
  · obtain ⟨R1, eR, g1, g2, g3⟩ := wroom_e hR h2 h1 c15
    have eW : j_widen N x1 = fu (up N 0 0 (nI R1)) 1 (va_cpy (N 1) (fun _ => 0) 0 0 (jlen N)) := by unfold j_widen; rw [if_neg c15, eR]
    have eJ0 : jlen N = 5 * R0 := by unfold jlen; rw [hR, nI_clamp (by omega), Nat.min_eq_left h2]
    have eJ1 : jlen (j_widen N x1) = 5 * R1 := by
      rw [eW]
      show 5 * min (nI R1).toNatClampNeg 24800 = 5 * R1
      rw [nI_clamp (by omega), Nat.min_eq_left g2]
    have eM : mcW N (j_widen N x1) = R1 - R0 := by
      rw [eW]
      show (nI R1).toNatClampNeg - (N 0 0).toNatClampNeg = R1 - R0
      rw [hR, nI_clamp (by omega), nI_clamp (by omega)]
    have eP : msW N (j_widen N x1) = pot R1 - pot R0 := by
      rw [eW]
      show pot (nI R1).toNatClampNeg - pot (N 0 0).toNatClampNeg = pot R1 - pot R0
      rw [hR, nI_clamp (by omega), nI_clamp (by omega)]
    have hpot := pot_up g1 g2 g3
    refine lv_aload_n hx hb d_N_widen_18 rfl (lv_at hl 1 rfl) ?_
    refine lv_iload_n hx hb d_N_widen_19 rfl (lv_at hl 0 rfl) ?_
    refine lv_iconst (v := 2) hx hb d_N_widen_20 (by decide) ?_
    refine lv_aload_n hx hb d_N_widen_21 rfl (lv_at hl 1 rfl) ?_
    refine va_get (D := (dC, dI)) (ci := 1) (v := .int (N 0 0)) (C := R_N) (T := T_N) (N := 11) hx hb hts in_N hown hK hP 0 rfl rfl 5 (by decide) (hts _ kfl_N_15) (fun _ h9 => h9) rfl d_N_widen_22 ?_
    refine lv_imul hx hb d_N_widen_25 ?_
    refine nMax hx hb (hml.trans hl.1.symm) hown hts kml_N_90 (Nat.le_of_ble_eq_true rfl) (Nat.le_of_ble_eq_true rfl) ⟨Nat.zero_le _, Nat.zero_le _⟩ d_N_widen_26 ?_
    refine lv_sipush (v := 24800) hx hb d_N_widen_29 (by decide) ?_
    refine nMin hx hb (hml.trans hl.1.symm) hown hts kml_N_57 (Nat.le_of_ble_eq_true rfl) (Nat.le_of_ble_eq_true rfl) ⟨Nat.zero_le _, Nat.zero_le _⟩ d_N_widen_32 ?_
    rw [show j_min (j_max (j_min (x1 + 2) 24800) (2 * N 0 0)) 24800 = nI R1 from eR]
    refine va_put (D := (dC, dI)) (ci := 1) (v := .int (nI R1)) (ty := .int) (C := R_N) (T := T_N) (N := 11) hx hb hts in_N ty_N tk_N nm_N hown hK hP hD hS 0 rfl rfl 5 (by decide) (hts _ kfl_N_15) (fun _ h9 => h9) rfl (by decide +kernel) rfl rfl (Nat.le_of_ble_eq_true rfl) d_N_widen_35 (fun H locs hP hD hS => ?_)
    have hP : va_P (dC, dI) cls0 [(a 0, .inr (1, [.ref (a 1), .ref (a 2), .ref (a 3), .ref (a 4), .ref (a 5), .int (nI R1), .int (N 0 1), .int (N 0 2), .int (N 0 3), .int (N 0 4), .int (N 0 5)])), (a 1, .inl (cI, jlen N, .inl (N 1))), (a 2, .inl (cI, 768, .inl (N 2))), (a 3, .inl (cI, 12, .inl (N 3))), (a 4, .inl (cI, 13, .inl (N 4))), (a 5, .inl (cI, 13, .inl (N 5)))] H := hP
    have hD : va_D A [(a 0, .inr (1, [.ref (a 1), .ref (a 2), .ref (a 3), .ref (a 4), .ref (a 5), .int (nI R1), .int (N 0 1), .int (N 0 2), .int (N 0 3), .int (N 0 4), .int (N 0 5)])), (a 1, .inl (cI, jlen N, .inl (N 1))), (a 2, .inl (cI, 768, .inl (N 2))), (a 3, .inl (cI, 12, .inl (N 3))), (a 4, .inl (cI, 13, .inl (N 4))), (a 5, .inl (cI, 13, .inl (N 5)))] := hD
    refine lv_aload_n hx hb d_N_widen_38 rfl (lv_at hl 1 rfl) ?_
    refine lv_aload_n hx hb d_N_widen_39 rfl (lv_at hl 1 rfl) ?_
    refine va_get (D := (dC, dI)) (ci := 1) (v := .ref (a 1)) (C := R_N) (T := T_N) (N := 11) hx hb hts in_N hown hK hP 0 rfl rfl 0 (by decide) (hts _ kfl_N_11) (fun _ h9 => h9) rfl d_N_widen_40 ?_
    refine lv_aload_n hx hb d_N_widen_43 rfl (lv_at hl 1 rfl) ?_
    refine va_get (D := (dC, dI)) (ci := 1) (v := .int (nI R1)) (C := R_N) (T := T_N) (N := 11) hx hb hts in_N hown hK hP 0 rfl rfl 5 (by decide) (hts _ kfl_N_15) (fun _ h9 => h9) rfl d_N_widen_44 ?_
    refine lv_iconst (v := 5) hx hb d_N_widen_47 (by decide) ?_
    refine lv_imul hx hb d_N_widen_48 ?_
    rw [show nI R1 * 5 = nI (5 * R1) from by rw [show (5 : Int32) = nI 5 from rfl, pk_mul, Nat.mul_comm]]
    have hPc := hP.sub (ws' := [(a 1, .inl (cI, jlen N, .inl (N 1)))]) [1] rfl
    have hDc := hD.sub (ws' := [(a 1, .inl (cI, jlen N, .inl (N 1)))]) [1] (by decide) rfl
    have hFc := va_free (wc := [(a 1, .inl (cI, jlen N, .inl (N 1)))]) hD hS hA [1] rfl
    refine va_callr (va_runS (As := [.ref (a 1), .int (nI (5 * R1))]) (rest := [.ref (a 0)]) ⟨hx, hb, hml, hown, hts⟩ (c_JA_copyOf l dC dI cI (a 1) (jlen N) (5 * R1) (N 1) H.size (by omega) (by omega)) (va_cwS 2 hts (gS kml_N_97 kst_JA_copyOf kin_JA kcd_JA_copyOf) rfl rfl rfl (by decide +kernel) ⟨Nat.le_of_ble_eq_true rfl, Nat.le_of_ble_eq_true rfl⟩) ⟨fun a U g mk q => by obtain ⟨q0, q1, qP, qK, qD⟩ := q; exact ⟨q0, q1, qP, va_K.moved (u := U) (U := U.calling g mk a) (Vm.Alike.refl U.vm) qK, qD⟩, fun U hU hWu => ⟨rfl, by rw [hU], by rw [hU]; exact hPc, va_K.moved hWu.alike hK, hDc.weaken (fun _ _ _ _ => trivial)⟩⟩ rfl rfl hl.1 rfl (lv_room (Nat.le_of_ble_eq_true rfl)) d_N_widen_49 ⟨by show 0 + 1 ≤ mcW N (j_widen N x1); omega, by show 0 + 5 * R1 ≤ msW N (j_widen N x1); omega⟩) hS (fun q _ h => hFc q h) hFc (fun u q t H1 locs ht hvm hw hB hz1 hk1 hS => ?_)
    obtain ⟨hP1, hK1, hD1⟩ := hB
    rw [ht] at hP1
    obtain ⟨hP, hD⟩ := va_join (wr := [(a 0, .inr (1, [.ref (a 1), .ref (a 2), .ref (a 3), .ref (a 4), .ref (a 5), .int (nI R1), .int (N 0 1), .int (N 0 2), .int (N 0 3), .int (N 0 4), .int (N 0 5)])), (a 2, .inl (cI, 768, .inl (N 2))), (a 3, .inl (cI, 12, .inl (N 3))), (a 4, .inl (cI, 13, .inl (N 4))), (a 5, .inl (cI, 13, .inl (N 5)))]) hP hD [1] [0, 2, 3, 4, 5] rfl rfl (by decide) (by decide) hk1 hFc hP1 hD1
    refine va_put (D := (dC, dI)) (ci := 1) (v := .ref q) (ty := .array .int) (C := R_N) (T := T_N) (N := 11) hx hb hts in_N ty_N tk_N nm_N hown hK hP hD hS 0 rfl rfl 0 (by decide) (hts _ kfl_N_11) (fun _ h9 => h9) rfl (by decide +kernel) rfl rfl (Nat.le_of_ble_eq_true rfl) d_N_widen_52 (fun H locs hP hD hS => ?_)
    have hP9 : va_P (dC, dI) cls0 (nW cI (fu a 1 q) (j_widen N x1)) H := by
      show va_P (dC, dI) cls0 [(a 0, .inr (1, [.ref q, .ref (a 2), .ref (a 3), .ref (a 4), .ref (a 5), .int (j_widen N x1 0 0), .int (j_widen N x1 0 1), .int (j_widen N x1 0 2), .int (j_widen N x1 0 3), .int (j_widen N x1 0 4), .int (j_widen N x1 0 5)])), (q, .inl (cI, jlen (j_widen N x1), .inl (j_widen N x1 1))), (a 2, .inl (cI, 768, .inl (j_widen N x1 2))), (a 3, .inl (cI, 12, .inl (j_widen N x1 3))), (a 4, .inl (cI, 13, .inl (j_widen N x1 4))), (a 5, .inl (cI, 13, .inl (j_widen N x1 5)))] H
      rw [eJ1, eW]
      exact hP.sub [0, 6, 1, 2, 3, 4] rfl
    have hD9 : va_D A (nW cI (fu a 1 q) (j_widen N x1)) := by
      show va_D A [(a 0, .inr (1, [.ref q, .ref (a 2), .ref (a 3), .ref (a 4), .ref (a 5), .int (j_widen N x1 0 0), .int (j_widen N x1 0 1), .int (j_widen N x1 0 2), .int (j_widen N x1 0 3), .int (j_widen N x1 0 4), .int (j_widen N x1 0 5)])), (q, .inl (cI, jlen (j_widen N x1), .inl (j_widen N x1 1))), (a 2, .inl (cI, 768, .inl (j_widen N x1 2))), (a 3, .inl (cI, 12, .inl (j_widen N x1 3))), (a 4, .inl (cI, 13, .inl (j_widen N x1 4))), (a 5, .inl (cI, 13, .inl (j_widen N x1 5)))]
      rw [eJ1, eW]
      exact hD.sub [0, 6, 1, 2, 3, 4] (by decide) rfl
    refine W.widen (k := mcW N (j_widen N x1)) (n := msW N (j_widen N x1)) (by omega) (by omega) ?_
    exact W.vret hx hb hr (fun t ht hW => ⟨⟨fu a 1 q, rfl, rfl, by rw [ht]; exact hP9, va_K.moved hW.alike hK, hD9⟩, hS.F ht⟩) hS.2.2 d_N_widen_55
end
section
/-! what leaves the room as it is -/
theorem refer_0 (N : Mm) (a b : Int32) : j_refer N a b 0 = N 0 := js_0 _ _ _ _
theorem giveBack_00 (N : Mm) (a : Int32) : j_giveBack N a 0 0 = N 0 0 := by unfold j_giveBack; rw [uf_3_0, uf_2_0, js_0]
theorem dropHeld_0 (N : Mm) (v : Int32) : j_dropHeld N v 0 = N 0 := by
  unfold j_dropHeld
  by_cases c1 : v < 0
  · rw [if_pos c1]
  · rw [if_neg c1]
    by_cases c2 : nI 12 ≤ v
    · rw [if_pos c2]
    · rw [if_neg c2, uq_3_0]
theorem dropKids_0 (N : Mm) (a : Int32) : j_dropKids N a 0 = N 0 := by unfold j_dropKids; rw [refer_0, refer_0]
theorem drop_00 (N : Mm) (a : Int32) : j_drop N a 0 0 = N 0 0 := by
  unfold j_drop
  rw [giveBack_00, dropKids_0, dropHeld_0]
theorem neededL_00 : ∀ (n : Nat) (N : Mm) (a b : Int32), (j_neededL n N a b).1 0 0 = N 0 0
  | 0, _, _, _ => rfl
  | n + 1, N, a, b => by
    rw [j_neededL]
    by_cases c1 : b = 0
    · rw [if_pos c1]
    · rw [if_neg c1]
      by_cases c2 : 0 < j_get N b 4
      · rw [if_pos c2, neededL_00 n, js_0]
      · rw [if_neg c2, neededL_00 n, drop_00]
theorem needed_00 (N : Mm) (a : Int32) : (j_needed N a).1 0 0 = N 0 0 := neededL_00 _ _ _ _
theorem collectH_00 : ∀ (n : Nat) (N : Mm) (h : Int32), j_collectH n N h 0 0 = N 0 0 ∧ j_collectH n N h 5 = N 5
  | 0, _, _ => ⟨rfl, rfl⟩
  | n + 1, N, h => by
    rw [j_collectH]
    by_cases c1 : h < 0
    · rw [if_pos c1]; exact collectH_00 n _ _
    · rw [if_neg c1]
      by_cases c2 : nI 768 ≤ h
      · rw [if_pos c2]; exact collectH_00 n _ _
      · rw [if_neg c2]
        obtain ⟨e1, e2⟩ := collectH_00 n (up (j_needed N (N 2 h.toNatClampNeg)).1 2 h.toNatClampNeg (j_needed N (N 2 h.toNatClampNeg)).2) (h + 1)
        rw [e1, e2, uq_2_0, uq_2_5, needed_00, needed_5]
        exact ⟨rfl, rfl⟩
theorem collectL_00 : ∀ (n : Nat) (N : Mm) (k : Int32), j_collectL n N k 0 0 = N 0 0 ∧ j_collectL n N k 5 = N 5
  | 0, _, _ => ⟨rfl, rfl⟩
  | n + 1, N, k => by
    rw [j_collectL]
    obtain ⟨e1, e2⟩ := collectL_00 n (j_collectH 64 N (j_variableAt N k * 64)) (k + 1)
    obtain ⟨f1, f2⟩ := collectH_00 64 N (j_variableAt N k * 64)
    rw [e1, e2, f1, f2]
    exact ⟨rfl, rfl⟩
theorem collect_00 (N : Mm) : j_collect N 0 0 = N 0 0 := (collectL_00 12 N 0).1
theorem collect_5 (N : Mm) : j_collect N 5 = N 5 := (collectL_00 12 N 0).2
theorem link_0 (N : Mm) (a b c d : Int32) : j_link N a b c d 0 = N 0 := by
  unfold j_link
  by_cases c1 : b < 0
  · rw [if_pos c1]
  · rw [if_neg c1]
    by_cases c2 : nI 12 ≤ b
    · rw [if_pos c2]
    · rw [if_neg c2]
      by_cases c3 : j_chainFor b c d < 0
      · rw [if_pos c3]
      · rw [if_neg c3]
        by_cases c4 : nI 768 ≤ j_chainFor b c d
        · rw [if_pos c4]
        · rw [if_neg c4, uq_3_0, uq_2_0, js_0, js_0, js_0, js_0]
theorem fresh_00 (N : Mm) : (j_freshRow N).1 0 0 = N 0 0 := by
  unfold j_freshRow
  by_cases c1 : N 0 2 = 0
  · rw [if_pos c1]
    by_cases c2 : N 0 1 < N 0 0
    · rw [if_pos c2]
      show up (j_set (up N 0 1 (N 0 1 + 1)) (N 0 1) 4 0) 0 3 (N 0 3 + 1) 0 0 = N 0 0
      rw [uf_3_0, js_0, uf_1_0]
    · rw [if_neg c2]
  · rw [if_neg c1]
    show up (j_set (up N 0 2 (j_get N (N 0 2) 3)) (N 0 2) 4 0) 0 3 (N 0 3 + 1) 0 0 = N 0 0
    rw [uf_3_0, js_0, uf_2_0]
theorem fresh2_00 (N : Mm) (a b c : Int32) : (j_fresh2 N a b c).1 0 0 = N 0 0 := by
  unfold j_fresh2
  by_cases c1 : (j_freshRow N).2 = 0
  · rw [if_pos c1]; exact fresh_00 N
  · rw [if_neg c1]
    show j_link _ _ _ _ _ 0 0 = N 0 0
    rw [link_0, refer_0, refer_0, fresh_00]
theorem make_00 (N : Mm) (a b c : Int32) : (j_make N a b c).1 0 0 = N 0 0 := by
  unfold j_make
  by_cases c1 : b = c
  · rw [if_pos c1]
  · rw [if_neg c1]
    by_cases c2 : j_chainFor a b c < 0
    · rw [if_pos c2]
    · rw [if_neg c2]
      by_cases c3 : nI 768 ≤ j_chainFor a b c
      · rw [if_pos c3]
      · rw [if_neg c3]
        generalize j_findL N b c 24800 (N 2 (j_chainFor a b c).toNatClampNeg) = z
        by_cases c4 : z = 0
        · rw [if_pos c4]; exact fresh2_00 N a b c
        · rw [if_neg c4]
theorem unlinkL_0 : ∀ (n : Nat) (N : Mm) (a b : Int32), j_unlinkL N a n b 0 = N 0
  | 0, _, _, _ => rfl
  | n + 1, N, a, b => by
    rw [j_unlinkL]
    by_cases c1 : b = 0
    · rw [if_pos c1]
    · rw [if_neg c1]
      by_cases c2 : j_get N b 3 = a
      · rw [if_pos c2, js_0]
      · rw [if_neg c2]; exact unlinkL_0 n N a _
theorem unlink2_0 (N : Mm) (a c : Int32) : j_unlink2 N a c 0 = N 0 := by
  unfold j_unlink2
  by_cases c1 : N 2 c.toNatClampNeg = a
  · rw [if_pos c1, uq_2_0]
  · rw [if_neg c1, unlinkL_0]
theorem unlink_0 (N : Mm) (a : Int32) : j_unlink N a 0 = N 0 := by
  unfold j_unlink
  by_cases c1 : j_get N a 0 < 0
  · rw [if_pos c1]
  · rw [if_neg c1]
    by_cases c2 : nI 12 ≤ j_get N a 0
    · rw [if_pos c2]
    · rw [if_neg c2]
      by_cases c3 : j_chainFor (j_get N a 0) (j_get N a 1) (j_get N a 2) < 0
      · rw [if_pos c3]
      · rw [if_neg c3]
        by_cases c4 : nI 768 ≤ j_chainFor (j_get N a 0) (j_get N a 1) (j_get N a 2)
        · rw [if_pos c4]
        · rw [if_neg c4, unlink2_0, uq_3_0]
theorem release_00 (N : Mm) (a : Int32) : j_release N a 0 0 = N 0 0 := by
  unfold j_release
  by_cases c1 : a ≤ 1
  · rw [if_pos c1, refer_0]
  · rw [if_neg c1]
    by_cases c2 : 0 < j_get (j_refer N a (-1)) a 4
    · rw [if_pos c2, refer_0]
    · rw [if_neg c2, giveBack_00, dropKids_0, unlink_0, refer_0]
theorem rewrite_00 (N : Mm) (a b c : Int32) : j_rewrite N a b c 0 0 = N 0 0 := by
  unfold j_rewrite
  rw [uf_5_0]
  unfold j_rewrite1 j_rewrite2
  rw [release_00, release_00, link_0, refer_0, refer_0]
  unfold j_rewriteB
  rw [make_00]
  unfold j_rewriteA
  rw [make_00]
theorem detachC_0 (x : Int32) (u : Nat) : ∀ (n : Nat) (N : Mm) (a b c : Int32), (j_detachC x u n N a b c).1 0 = N 0
  | 0, _, _, _, _ => rfl
  | n + 1, N, a, b, c => by
    rw [j_detachC]
    by_cases c1 : c = 0
    · rw [if_pos c1]
    · rw [if_neg c1]
      by_cases c2 : j_get N (j_get N c 1) 0 = x ∨ j_get N (j_get N c 2) 0 = x
      · rw [if_pos c2, detachC_0 x u n, uq_3_0, js_0]
      · rw [if_neg c2, detachC_0 x u n, js_0]
theorem detachH_0 (x y : Int32) : ∀ (n : Nat) (N : Mm) (a h : Int32), (j_detachH x y n N a h).1 0 = N 0
  | 0, _, _, _ => rfl
  | n + 1, N, a, h => by
    rw [j_detachH]
    by_cases c1 : h < 0
    · rw [if_pos c1]
    · rw [if_neg c1]
      by_cases c2 : nI 768 ≤ h
      · rw [if_pos c2]
      · rw [if_neg c2]
        by_cases c3 : y < 0
        · rw [if_pos c3]
        · rw [if_neg c3]
          by_cases c4 : nI 12 ≤ y
          · rw [if_pos c4]
          · rw [if_neg c4, detachH_0 x y n, uq_2_0, detachC_0]
theorem detach_0 (N : Mm) (a b : Int32) : (j_detach N a b).1 0 = N 0 := detachH_0 _ _ _ _ _ _
theorem swapL_00 (x y : Int32) : ∀ (n : Nat) (N : Mm) (a : Int32), j_swapL x y n N a 0 0 = N 0 0
  | 0, _, _ => rfl
  | n + 1, N, a => by
    rw [j_swapL]
    by_cases c1 : a = 0
    · rw [if_pos c1]
    · rw [if_neg c1, swapL_00 x y n, rewrite_00]
theorem swap3_00 (N : Mm) (x y : Int32) : j_swap3 N x y 0 0 = N 0 0 := by
  unfold j_swap3
  rw [swapL_00, detach_0]
section NCALLW
variable {p : Program} {l : Launch} {e : Env} {R : Room} {s : State} {m : MethodId} {args : Array Value} {below : List Frame} {meth : Method} {c : Code} {H H0 : Heap} {locs : List Loc} {cells slots mc ms : Nat} {Q : State → Prop} {cc bytes : ByteArray} {pc maxL nL n index : Nat} {ls : Array Slot} {st rest As : List Value} {A0 : Nat → Prop} {y : MethodName} {cy : Cond} {rm : Room} {dC : Nat → ClassId} {dI : Nat → Nat → Nat} {cI : ClassId} {a : Nat → Nat} {N N' : Mm}
/-- a method of Nodes calls one that may make the rows anew -/
theorem nCallW (S : CallFix p m c cc nL s args W0 R_N) (hM : Met l y (cy :: W0) rm (va_Pc (.ref (a 0) :: As) (nM dC dI cI a N H.size)) (va_Qv (fun u : Nat → Nat => u 0 = a 0) (fun u t => nE dC dI cI u N' (va_A (nW cI a N) H.size) t) (va_A (nW cI a N) H.size)) mc ms (va_A (nW cI a N) H.size)) (cw : CallW R s args R_N R_N index y bytes maxL none (cy :: W0) rm mc ms n) (hP : va_P (dC, dI) cls0 (nW cI a N) H) (hK : va_K (dC, dI) cls0 [(cI, .int)] s) (hD : va_D A0 (nW cI a N)) (hS : va_S A0 H0 H locs) (hA : ∀ q, H0.size ≤ q → A0 q) (hn : As.length = n) (hsz : ls.size = nL) (hst : st = As.reverse ++ .ref (a 0) :: rest) (hW : (rest.map fun v => v.category).sum ≤ 8) (hdg : decode cc pc = .ok (.invokevirtual index, 3)) (hf : cells + mc ≤ R.cells ∧ slots + ms ≤ R.slots)
    (kk : ∀ (u : Nat → Nat) (H1 : Heap) (locs1 : List Loc), u 0 = a 0 → va_P (dC, dI) cls0 (nW cI u N') H1 → va_D A0 (nW cI u N') → va_S A0 H0 H1 locs1 → W p l e R s m args below meth c H1 locs1 (cells + mc) (slots + ms) Q (F0 m (pc + 3) ls rest)) : W p l e R s m args below meth c H locs cells slots Q (F0 m pc ls st) := by
  subst hst
  have hFc := va_free (wc := nW cI a N) hD hS hA [0, 1, 2, 3, 4, 5] rfl
  refine va_callv (va_runV (As := As) (rest := rest) (g := F0 m pc ls (As.reverse ++ .ref (a 0) :: rest)) S hM cw ⟨nM_call _, va_recv hK hP (ci := 1) (q0 := 0) rfl rfl, fun U hU hWu => ⟨rfl, by rw [hU], by rw [hU]; exact hP, va_K.moved hWu.alike hK, hD.weaken (fun _ _ _ _ => trivial)⟩⟩ rfl hn hsz rfl (lv_room hW) hdg hf) hS (fun q _ h => hFc q h) hFc (fun u t H1 locs1 ht hvm hw hB hz1 hk1 hS1 => ?_)
  obtain ⟨hP1, hK1, hD1⟩ := hB
  rw [ht] at hP1
  obtain ⟨hP2, hD2⟩ := va_join (wr := []) (w1 := nW cI u N') hP hD [0, 1, 2, 3, 4, 5] [] rfl rfl (by decide) (by decide) hk1 hFc hP1 hD1
  exact kk u H1 locs1 hw hP2 hD2 hS1
end NCALLW
end
section
set_option maxHeartbeats 4000000 in
set_option maxRecDepth 100000 in
/-- N_makeRoom -/
theorem c_N_makeRoom (l : Launch) (dC : Nat → ClassId) (dI : Nat → Nat → Nat) (cI : ClassId) (a : Nat → Nat) (N : Mm) (sz : Nat) (x1 : Int32) (R0 : Nat) (hR : N 0 0 = nI R0) (h1 : 1024 ≤ R0) (h2 : R0 ≤ 24800) (hv : ∀ k, k < 13 → ∃ w, w < 13 ∧ N 5 k = nI w) : Met l y_N_makeRoom (.code y_N_makeRoom b_N_makeRoom 2 none :: W0) ({ frames := 4, cells := (mcW N (j_makeRoom N x1)), slots := (msW N (j_makeRoom N x1)), locals := 104 } : Room) (va_Pc [.ref (a 0), .int x1] (nM dC dI cI a N sz)) (va_Qv (fun u : Nat → Nat => u 0 = a 0) (fun u t => nE dC dI cI u (j_makeRoom N x1) (va_A (nW cI a N) sz) t) (va_A (nW cI a N) sz)) (mcW N (j_makeRoom N x1)) (msW N (j_makeRoom N x1)) (va_A (nW cI a N) sz) := by
  refine Met.ofW (cc := b_N_makeRoom) (maxL := 2) (ret := none) (by decide) rfl ?_
  intro p e s m args below meth c s₁ B hml hv
  obtain ⟨rfl, hsz, hP, hK, hD0⟩ := hv
  have hx := B.exec
  have hb := B.bytes
  have hr := B.returns
  have hts1 := atoms_spec (ws := .code y_N_makeRoom b_N_makeRoom 2 none :: W0) B.pre
  have hts : ∀ w ∈ W0, w.before _ s = true := fun w h => hts1 w (List.mem_cons_of_mem _ h)
  have hown : s.vm.findClass R_N = some m.cls := findClass_of_methodNamed B.named
  have hlocks := B.notSynchronized
  subst hsz
  have hD := hD0.self (sz := s.heap.size)
  generalize hAe : va_A (nW cI a N) s.heap.size = A at hD ⊢
  have hA : ∀ q : Nat, s.heap.size ≤ q → A q := fun q h => by rw [← hAe]; exact Or.inr h
  have hS : va_S A s.heap s.heap [] := va_S.rf
  have hP : va_P (dC, dI) cls0 (nW cI a N) s.heap := hP
  have hl := lv_entry ([.ref (a 0), .int x1]) (n := 2) (Nat.le_of_ble_eq_true rfl)
  rw [lg_entry_eq]
  generalize (lg_sl ([.ref (a 0), .int x1]) ++ List.replicate (2 - (lg_sl ([.ref (a 0), .int x1])).length) Slot.unset).toArray = ls at hl ⊢
  have hl : lv_has ls 2 [(0, .ref (a 0)), (1, .int x1)] := hl
  refine lv_aload_n hx hb d_N_makeRoom_0 rfl (lv_at hl 0 rfl) ?_
  refine va_get (D := (dC, dI)) (ci := 1) (v := .int (N 0 3)) (C := R_N) (T := T_N) (N := 11) hx hb hts in_N hown hK hP 0 rfl rfl 8 (by decide) (hts _ kfl_N_40) (fun _ h9 => h9) rfl d_N_makeRoom_1 ?_
  refine lv_aload_n hx hb d_N_makeRoom_4 rfl (lv_at hl 0 rfl) ?_
  refine va_get (D := (dC, dI)) (ci := 1) (v := .int (N 0 4)) (C := R_N) (T := T_N) (N := 11) hx hb hts in_N hown hK hP 0 rfl rfl 9 (by decide) (hts _ kfl_N_37) (fun _ h9 => h9) rfl d_N_makeRoom_5 ?_
  refine lv_icmp_le (tgt := 37) hx hb d_N_makeRoom_8 (by decide) (fun c8 => ?_) (fun c8 => ?_)
  · have eS : j_makeRoom N x1 = j_widen N (N 0 3 + x1) := by (first | (simp only [j_makeRoom, c8, Int32.not_lt.mpr c8, if_true, if_false, not_true_eq_false, not_false_eq_true, true_and, and_true, false_and, and_false, true_or, or_true, false_or, or_false, ite_true, ite_false, eq_self]; done) | (simp only [j_makeRoom, c8, Int32.not_lt.mpr c8, if_true, if_false, not_true_eq_false, not_false_eq_true, true_and, and_true, false_and, and_false, true_or, or_true, false_or, or_false, ite_true, ite_false, eq_self]; simp only [uq_0_1, uq_0_2, uq_0_3, uq_0_4, uq_0_5, uq_1_0, uq_1_2, uq_1_3, uq_1_4, uq_1_5, uq_2_0, uq_2_1, uq_2_3, uq_2_4, uq_2_5, uq_3_0, uq_3_1, uq_3_2, uq_3_4, uq_3_5, uq_4_0, uq_4_1, uq_4_2, uq_4_3, uq_4_5, uq_5_0, uq_5_1, uq_5_2, uq_5_3, uq_5_4, uf_0_0, uf_0_1, uf_0_2, uf_0_3, uf_0_4, uf_0_5, uf_1_0, uf_1_1, uf_1_2, uf_1_3, uf_1_4, uf_1_5, uf_2_0, uf_2_1, uf_2_2, uf_2_3, uf_2_4, uf_2_5, uf_3_0, uf_3_1, uf_3_2, uf_3_3, uf_3_4, uf_3_5, uf_4_0, uf_4_1, uf_4_2, uf_4_3, uf_4_4, uf_4_5, uf_5_0, uf_5_1, uf_5_2, uf_5_3, uf_5_4, uf_5_5, js_0, js_2, js_3, js_4, js_5]; done) | (simp only [j_makeRoom, uq_0_1, uq_0_2, uq_0_3, uq_0_4, uq_0_5, uq_1_0, uq_1_2, uq_1_3, uq_1_4, uq_1_5, uq_2_0, uq_2_1, uq_2_3, uq_2_4, uq_2_5, uq_3_0, uq_3_1, uq_3_2, uq_3_4, uq_3_5, uq_4_0, uq_4_1, uq_4_2, uq_4_3, uq_4_5, uq_5_0, uq_5_1, uq_5_2, uq_5_3, uq_5_4, uf_0_0, uf_0_1, uf_0_2, uf_0_3, uf_0_4, uf_0_5, uf_1_0, uf_1_1, uf_1_2, uf_1_3, uf_1_4, uf_1_5, uf_2_0, uf_2_1, uf_2_2, uf_2_3, uf_2_4, uf_2_5, uf_3_0, uf_3_1, uf_3_2, uf_3_3, uf_3_4, uf_3_5, uf_4_0, uf_4_1, uf_4_2, uf_4_3, uf_4_4, uf_4_5, uf_5_0, uf_5_1, uf_5_2, uf_5_3, uf_5_4, uf_5_5, js_0, js_2, js_3, js_4, js_5, c8, Int32.not_lt.mpr c8, if_true, if_false, not_true_eq_false, not_false_eq_true, true_and, and_true, false_and, and_false, true_or, or_true, false_or, or_false, ite_true, ite_false, eq_self]; done))
    have eC : mcW N (j_makeRoom N x1) = mcW N (j_widen N (N 0 3 + x1)) := by unfold mcW rmN; rw [eS]
    have eD : msW N (j_makeRoom N x1) = msW N (j_widen N (N 0 3 + x1)) := by unfold msW rmN; rw [eS]
    refine lv_aload_n hx hb d_N_makeRoom_37 rfl (lv_at hl 0 rfl) ?_
    refine lv_aload_n hx hb d_N_makeRoom_38 rfl (lv_at hl 0 rfl) ?_
    refine va_get (D := (dC, dI)) (ci := 1) (v := .int (N 0 3)) (C := R_N) (T := T_N) (N := 11) hx hb hts in_N hown hK hP 0 rfl rfl 8 (by decide) (hts _ kfl_N_40) (fun _ h9 => h9) rfl d_N_makeRoom_39 ?_
    refine lv_iload_n hx hb d_N_makeRoom_42 rfl (lv_at hl 1 rfl) ?_
    refine lv_iadd hx hb d_N_makeRoom_43 ?_
    refine nCallW (As := [.int ((N 0 3) + x1)]) (rest := []) ⟨hx, hb, hml, hown, hts⟩ (c_N_widen l dC dI cI a N _ ((N 0 3) + x1) R0 (hR) h1 h2) (cwV 1 hts (gV kml_N_93 kim_N_widen ksl_N_widen kin_N kcd_N_widen) rfl rfl rfl (by decide +kernel) ⟨Nat.le_of_ble_eq_true rfl, Nat.le_of_ble_eq_true rfl⟩) hP hK hD hS hA rfl hl.1 rfl (Nat.le_of_ble_eq_true rfl) d_N_makeRoom_44 ⟨by show 0 + _ ≤ mcW N (j_makeRoom N x1); omega, by show 0 + _ ≤ msW N (j_makeRoom N x1); omega⟩ (fun u H locs hu hP hD hS => ?_)
    rw [← hu] at hl
    refine W.widen (k := mcW N (j_makeRoom N x1)) (n := msW N (j_makeRoom N x1)) (by omega) (by omega) ?_
    have hP9 : va_P (dC, dI) cls0 (nW cI u (j_makeRoom N x1)) _ := (show j_widen N ((N 0 3) + x1) = j_makeRoom N x1 from by exact eS.symm) ▸ hP
    have hD9 : va_D A (nW cI u (j_makeRoom N x1)) := (show j_widen N ((N 0 3) + x1) = j_makeRoom N x1 from by exact eS.symm) ▸ hD
    refine W.widen (k := mcW N (j_makeRoom N x1)) (n := msW N (j_makeRoom N x1)) (Nat.le_refl _) (Nat.le_refl _) ?_
    exact W.vret hx hb hr (fun t ht hW => ⟨⟨u, rfl, hu, by rw [ht]; exact hP9, va_K.moved hW.alike hK, hD9⟩, hS.F ht⟩) hS.2.2 d_N_makeRoom_47
  · refine lv_aload_n hx hb d_N_makeRoom_11 rfl (lv_at hl 0 rfl) ?_
    refine nCallv (As := []) (rest := []) ⟨hx, hb, hml, hown, hts⟩ (c_N_collect l dC dI cI a N _  hv) (cwV 0 hts (gV kml_N_87 kim_N_collect ksl_N_collect kin_N kcd_N_collect) rfl rfl rfl (by decide +kernel) ⟨Nat.le_of_ble_eq_true rfl, Nat.le_of_ble_eq_true rfl⟩) hP hK hD hS hA rfl hl.1 rfl (Nat.le_of_ble_eq_true rfl) d_N_makeRoom_12 ⟨Nat.zero_le _, Nat.zero_le _⟩ (fun H locs hP hD hS => ?_)
    refine lv_aload_n hx hb d_N_makeRoom_15 rfl (lv_at hl 0 rfl) ?_
    refine lv_iconst (v := 2) hx hb d_N_makeRoom_16 (by decide) ?_
    refine lv_aload_n hx hb d_N_makeRoom_17 rfl (lv_at hl 0 rfl) ?_
    refine va_get (D := (dC, dI)) (ci := 1) (v := .int ((j_collect N) 0 3)) (C := R_N) (T := T_N) (N := 11) hx hb hts in_N hown hK hP 0 rfl rfl 8 (by decide) (hts _ kfl_N_40) (fun _ h9 => h9) rfl d_N_makeRoom_18 ?_
    refine lv_imul hx hb d_N_makeRoom_21 ?_
    refine lv_sipush (v := 1024) hx hb d_N_makeRoom_22 (by decide) ?_
    refine nMax hx hb (hml.trans hl.1.symm) hown hts kml_N_90 (Nat.le_of_ble_eq_true rfl) (Nat.le_of_ble_eq_true rfl) ⟨Nat.zero_le _, Nat.zero_le _⟩ d_N_makeRoom_25 ?_
    refine lv_sipush (v := 21475) hx hb d_N_makeRoom_28 (by decide) ?_
    refine nMin hx hb (hml.trans hl.1.symm) hown hts kml_N_57 (Nat.le_of_ble_eq_true rfl) (Nat.le_of_ble_eq_true rfl) ⟨Nat.zero_le _, Nat.zero_le _⟩ d_N_makeRoom_31 ?_
    refine nPut4 hx hb hts hown hK hP hD hS kfl_N_37 d_N_makeRoom_34 (fun H locs hP hD hS => ?_)
    have eS : j_makeRoom N x1 = j_widen (up (j_collect N) 0 4 (j_min (j_max (2 * ((j_collect N) 0 3)) 1024) 21475)) ((up (j_collect N) 0 4 (j_min (j_max (2 * ((j_collect N) 0 3)) 1024) 21475)) 0 3 + x1) := by (first | (simp only [j_makeRoom, c8, Int32.not_le.mp c8, if_true, if_false, not_true_eq_false, not_false_eq_true, true_and, and_true, false_and, and_false, true_or, or_true, false_or, or_false, ite_true, ite_false, eq_self]; done) | (simp only [j_makeRoom, c8, Int32.not_le.mp c8, if_true, if_false, not_true_eq_false, not_false_eq_true, true_and, and_true, false_and, and_false, true_or, or_true, false_or, or_false, ite_true, ite_false, eq_self]; simp only [uq_0_1, uq_0_2, uq_0_3, uq_0_4, uq_0_5, uq_1_0, uq_1_2, uq_1_3, uq_1_4, uq_1_5, uq_2_0, uq_2_1, uq_2_3, uq_2_4, uq_2_5, uq_3_0, uq_3_1, uq_3_2, uq_3_4, uq_3_5, uq_4_0, uq_4_1, uq_4_2, uq_4_3, uq_4_5, uq_5_0, uq_5_1, uq_5_2, uq_5_3, uq_5_4, uf_0_0, uf_0_1, uf_0_2, uf_0_3, uf_0_4, uf_0_5, uf_1_0, uf_1_1, uf_1_2, uf_1_3, uf_1_4, uf_1_5, uf_2_0, uf_2_1, uf_2_2, uf_2_3, uf_2_4, uf_2_5, uf_3_0, uf_3_1, uf_3_2, uf_3_3, uf_3_4, uf_3_5, uf_4_0, uf_4_1, uf_4_2, uf_4_3, uf_4_4, uf_4_5, uf_5_0, uf_5_1, uf_5_2, uf_5_3, uf_5_4, uf_5_5, js_0, js_2, js_3, js_4, js_5]; done) | (simp only [j_makeRoom, uq_0_1, uq_0_2, uq_0_3, uq_0_4, uq_0_5, uq_1_0, uq_1_2, uq_1_3, uq_1_4, uq_1_5, uq_2_0, uq_2_1, uq_2_3, uq_2_4, uq_2_5, uq_3_0, uq_3_1, uq_3_2, uq_3_4, uq_3_5, uq_4_0, uq_4_1, uq_4_2, uq_4_3, uq_4_5, uq_5_0, uq_5_1, uq_5_2, uq_5_3, uq_5_4, uf_0_0, uf_0_1, uf_0_2, uf_0_3, uf_0_4, uf_0_5, uf_1_0, uf_1_1, uf_1_2, uf_1_3, uf_1_4, uf_1_5, uf_2_0, uf_2_1, uf_2_2, uf_2_3, uf_2_4, uf_2_5, uf_3_0, uf_3_1, uf_3_2, uf_3_3, uf_3_4, uf_3_5, uf_4_0, uf_4_1, uf_4_2, uf_4_3, uf_4_4, uf_4_5, uf_5_0, uf_5_1, uf_5_2, uf_5_3, uf_5_4, uf_5_5, js_0, js_2, js_3, js_4, js_5, c8, Int32.not_le.mp c8, if_true, if_false, not_true_eq_false, not_false_eq_true, true_and, and_true, false_and, and_false, true_or, or_true, false_or, or_false, ite_true, ite_false, eq_self]; done))
    have eC : mcW N (j_makeRoom N x1) = mcW (up (j_collect N) 0 4 (j_min (j_max (2 * ((j_collect N) 0 3)) 1024) 21475)) (j_widen (up (j_collect N) 0 4 (j_min (j_max (2 * ((j_collect N) 0 3)) 1024) 21475)) ((up (j_collect N) 0 4 (j_min (j_max (2 * ((j_collect N) 0 3)) 1024) 21475)) 0 3 + x1)) := by unfold mcW rmN; rw [eS, uf_4_0, collect_00]
    have eD : msW N (j_makeRoom N x1) = msW (up (j_collect N) 0 4 (j_min (j_max (2 * ((j_collect N) 0 3)) 1024) 21475)) (j_widen (up (j_collect N) 0 4 (j_min (j_max (2 * ((j_collect N) 0 3)) 1024) 21475)) ((up (j_collect N) 0 4 (j_min (j_max (2 * ((j_collect N) 0 3)) 1024) 21475)) 0 3 + x1)) := by unfold msW rmN; rw [eS, uf_4_0, collect_00]
    refine lv_aload_n hx hb d_N_makeRoom_37 rfl (lv_at hl 0 rfl) ?_
    refine lv_aload_n hx hb d_N_makeRoom_38 rfl (lv_at hl 0 rfl) ?_
    refine va_get (D := (dC, dI)) (ci := 1) (v := .int ((up (j_collect N) 0 4 (j_min (j_max (2 * ((j_collect N) 0 3)) 1024) 21475)) 0 3)) (C := R_N) (T := T_N) (N := 11) hx hb hts in_N hown hK hP 0 rfl rfl 8 (by decide) (hts _ kfl_N_40) (fun _ h9 => h9) rfl d_N_makeRoom_39 ?_
    refine lv_iload_n hx hb d_N_makeRoom_42 rfl (lv_at hl 1 rfl) ?_
    refine lv_iadd hx hb d_N_makeRoom_43 ?_
    refine nCallW (As := [.int (((up (j_collect N) 0 4 (j_min (j_max (2 * ((j_collect N) 0 3)) 1024) 21475)) 0 3) + x1)]) (rest := []) ⟨hx, hb, hml, hown, hts⟩ (c_N_widen l dC dI cI a (up (j_collect N) 0 4 (j_min (j_max (2 * ((j_collect N) 0 3)) 1024) 21475)) _ (((up (j_collect N) 0 4 (j_min (j_max (2 * ((j_collect N) 0 3)) 1024) 21475)) 0 3) + x1) R0 (by rw [uf_4_0, collect_00]; exact hR) h1 h2) (cwV 1 hts (gV kml_N_93 kim_N_widen ksl_N_widen kin_N kcd_N_widen) rfl rfl rfl (by decide +kernel) ⟨Nat.le_of_ble_eq_true rfl, Nat.le_of_ble_eq_true rfl⟩) hP hK hD hS hA rfl hl.1 rfl (Nat.le_of_ble_eq_true rfl) d_N_makeRoom_44 ⟨by show 0 + _ ≤ mcW N (j_makeRoom N x1); omega, by show 0 + _ ≤ msW N (j_makeRoom N x1); omega⟩ (fun u H locs hu hP hD hS => ?_)
    rw [← hu] at hl
    refine W.widen (k := mcW N (j_makeRoom N x1)) (n := msW N (j_makeRoom N x1)) (by omega) (by omega) ?_
    have hP9 : va_P (dC, dI) cls0 (nW cI u (j_makeRoom N x1)) _ := (show j_widen (up (j_collect N) 0 4 (j_min (j_max (2 * ((j_collect N) 0 3)) 1024) 21475)) (((up (j_collect N) 0 4 (j_min (j_max (2 * ((j_collect N) 0 3)) 1024) 21475)) 0 3) + x1) = j_makeRoom N x1 from by exact eS.symm) ▸ hP
    have hD9 : va_D A (nW cI u (j_makeRoom N x1)) := (show j_widen (up (j_collect N) 0 4 (j_min (j_max (2 * ((j_collect N) 0 3)) 1024) 21475)) (((up (j_collect N) 0 4 (j_min (j_max (2 * ((j_collect N) 0 3)) 1024) 21475)) 0 3) + x1) = j_makeRoom N x1 from by exact eS.symm) ▸ hD
    refine W.widen (k := mcW N (j_makeRoom N x1)) (n := msW N (j_makeRoom N x1)) (Nat.le_refl _) (Nat.le_refl _) ?_
    exact W.vret hx hb hr (fun t ht hW => ⟨⟨u, rfl, hu, by rw [ht]; exact hP9, va_K.moved hW.alike hK, hD9⟩, hS.F ht⟩) hS.2.2 d_N_makeRoom_47

set_option maxHeartbeats 4000000 in
set_option maxRecDepth 100000 in
/-- N_swap -/
theorem c_N_swap (l : Launch) (dC : Nat → ClassId) (dI : Nat → Nat → Nat) (cI : ClassId) (a : Nat → Nat) (N : Mm) (sz : Nat) (x1 : Int32) (R0 : Nat) (hR : N 0 0 = nI R0) (h1 : 1024 ≤ R0) (h2 : R0 ≤ 24800) (hv : ∀ k, k < 12 → ∃ w, w < 12 ∧ N 5 k = nI w) (kk : Nat) (hkk : kk < 13) (ek : x1 = nI kk) : Met l y_N_swap (.code y_N_swap b_N_swap 7 none :: W0) ({ frames := 4, cells := (mcW N (j_swap N x1)), slots := (msW N (j_swap N x1)), locals := 104 } : Room) (va_Pc [.ref (a 0), .int x1] (nM dC dI cI a N sz)) (va_Qv (fun u : Nat → Nat => u 0 = a 0) (fun u t => nE dC dI cI u (j_swap N x1) (va_A (nW cI a N) sz) t) (va_A (nW cI a N) sz)) (mcW N (j_swap N x1)) (msW N (j_swap N x1)) (va_A (nW cI a N) sz) := by
  refine Met.ofW (cc := b_N_swap) (maxL := 7) (ret := none) (by decide) rfl ?_
  intro p e s m args below meth c s₁ B hml hv
  obtain ⟨rfl, hsz, hP, hK, hD0⟩ := hv
  have hx := B.exec
  have hb := B.bytes
  have hr := B.returns
  have hts1 := atoms_spec (ws := .code y_N_swap b_N_swap 7 none :: W0) B.pre
  have hts : ∀ w ∈ W0, w.before _ s = true := fun w h => hts1 w (List.mem_cons_of_mem _ h)
  have hown : s.vm.findClass R_N = some m.cls := findClass_of_methodNamed B.named
  have hlocks := B.notSynchronized
  subst hsz
  have hD := hD0.self (sz := s.heap.size)
  generalize hAe : va_A (nW cI a N) s.heap.size = A at hD ⊢
  have hA : ∀ q : Nat, s.heap.size ≤ q → A q := fun q h => by rw [← hAe]; exact Or.inr h
  have hS : va_S A s.heap s.heap [] := va_S.rf
  have hP : va_P (dC, dI) cls0 (nW cI a N) s.heap := hP
  have hl := lv_entry ([.ref (a 0), .int x1]) (n := 7) (Nat.le_of_ble_eq_true rfl)
  rw [lg_entry_eq]
  generalize (lg_sl ([.ref (a 0), .int x1]) ++ List.replicate (7 - (lg_sl ([.ref (a 0), .int x1])).length) Slot.unset).toArray = ls at hl ⊢
  have hl : lv_has ls 7 [(0, .ref (a 0)), (1, .int x1)] := hl
  refine lv_iload_n hx hb d_N_swap_0 rfl (lv_at hl 1 rfl) ?_
  refine lv_if_lt (tgt := 23) hx hb d_N_swap_1 (by decide) (fun c1 => ?_) (fun c1 => ?_)
  · have hP9 : va_P (dC, dI) cls0 (nW cI a (j_swap N x1)) _ := (show N = j_swap N x1 from by simp only [j_swap, j_swap1, j_swap2, c1, Int32.not_le.mpr c1, if_true, if_false, not_true_eq_false, not_false_eq_true, true_and, and_true, false_and, and_false, true_or, or_true, false_or, or_false, ite_true, ite_false, eq_self]) ▸ hP
    have hD9 : va_D A (nW cI a (j_swap N x1)) := (show N = j_swap N x1 from by simp only [j_swap, j_swap1, j_swap2, c1, Int32.not_le.mpr c1, if_true, if_false, not_true_eq_false, not_false_eq_true, true_and, and_true, false_and, and_false, true_or, or_true, false_or, or_false, ite_true, ite_false, eq_self]) ▸ hD
    refine W.widen (k := mcW N (j_swap N x1)) (n := msW N (j_swap N x1)) (Nat.zero_le _) (Nat.zero_le _) ?_
    exact W.vret hx hb hr (fun t ht hW => ⟨⟨a, rfl, rfl, by rw [ht]; exact hP9, va_K.moved hW.alike hK, hD9⟩, hS.F ht⟩) hS.2.2 d_N_swap_23
  · refine lv_iload_n hx hb d_N_swap_4 rfl (lv_at hl 1 rfl) ?_
    refine lv_iconst (v := 1) hx hb d_N_swap_5 (by decide) ?_
    refine lv_iadd hx hb d_N_swap_6 ?_
    refine lv_bipush (v := 12) hx hb d_N_swap_7 (by decide) ?_
    refine lv_icmp_ge (tgt := 23) hx hb d_N_swap_9 (by decide) (fun c9 => ?_) (fun c9 => ?_)
    · have hP9 : va_P (dC, dI) cls0 (nW cI a (j_swap N x1)) _ := (show N = j_swap N x1 from by simp only [j_swap, j_swap1, j_swap2, c1, c9, Int32.not_lt.mp c1, Int32.not_lt.mpr c9, if_true, if_false, not_true_eq_false, not_false_eq_true, true_and, and_true, false_and, and_false, true_or, or_true, false_or, or_false, ite_true, ite_false, eq_self]) ▸ hP
      have hD9 : va_D A (nW cI a (j_swap N x1)) := (show N = j_swap N x1 from by simp only [j_swap, j_swap1, j_swap2, c1, c9, Int32.not_lt.mp c1, Int32.not_lt.mpr c9, if_true, if_false, not_true_eq_false, not_false_eq_true, true_and, and_true, false_and, and_false, true_or, or_true, false_or, or_false, ite_true, ite_false, eq_self]) ▸ hD
      refine W.widen (k := mcW N (j_swap N x1)) (n := msW N (j_swap N x1)) (Nat.zero_le _) (Nat.zero_le _) ?_
      exact W.vret hx hb hr (fun t ht hW => ⟨⟨a, rfl, rfl, by rw [ht]; exact hP9, va_K.moved hW.alike hK, hD9⟩, hS.F ht⟩) hS.2.2 d_N_swap_23
    · refine lv_iload_n hx hb d_N_swap_12 rfl (lv_at hl 1 rfl) ?_
      refine lv_iconst (v := 1) hx hb d_N_swap_13 (by decide) ?_
      refine lv_iadd hx hb d_N_swap_14 ?_
      refine lv_aload_n hx hb d_N_swap_15 rfl (lv_at hl 0 rfl) ?_
      refine va_get (D := (dC, dI)) (ci := 1) (v := .ref (a 5)) (C := R_N) (T := T_N) (N := 11) hx hb hts in_N hown hK hP 0 rfl rfl 4 (by decide) (hts _ kfl_N_34) (fun _ h9 => h9) rfl d_N_swap_16 ?_
      refine va_alen (v := nI 13) hx hb hK hP 5 0 rfl rfl rfl d_N_swap_19 ?_
      refine lv_icmp_lt (tgt := 24) hx hb d_N_swap_20 (by decide) (fun c20 => ?_) (fun c20 => ?_)
      · have hk11 : kk < 11 := by
          rcases Nat.lt_or_ge kk 11 with q | q
          · exact q
          · exact absurd (by rw [ek, nI_1]; exact nI_le (a := 12) (by omega) (by omega)) c9
        obtain ⟨w0, hw0, ew0⟩ := hv kk (by omega)
        have ec : x1.toNatClampNeg = kk := by rw [ek]; exact nI_clamp (by omega)
        rw [← ec] at ew0
        refine lv_aload_n hx hb d_N_swap_24 rfl (lv_at hl 0 rfl) ?_
        refine va_get (D := (dC, dI)) (ci := 1) (v := .ref (a 5)) (C := R_N) (T := T_N) (N := 11) hx hb hts in_N hown hK hP 0 rfl rfl 4 (by decide) (hts _ kfl_N_34) (fun _ h9 => h9) rfl d_N_swap_25 ?_
        refine lv_iload_n hx hb d_N_swap_28 rfl (lv_at hl 1 rfl) ?_
        refine va_iald hx hb hK hP 5 0 rfl rfl (by rw [ek]; exact vp_in_nI (by omega) (by decide)) d_N_swap_29 ?_
        refine lv_istore_n (lv' := [(2, .int (N 5 x1.toNatClampNeg)), (0, .ref (a 0)), (1, .int x1)]) hx hb d_N_swap_30 rfl hl (by decide) rfl (fun ls hl => ?_)
        refine lv_aload_n hx hb d_N_swap_31 rfl (lv_at hl 1 rfl) ?_
        refine va_get (D := (dC, dI)) (ci := 1) (v := .ref (a 5)) (C := R_N) (T := T_N) (N := 11) hx hb hts in_N hown hK hP 0 rfl rfl 4 (by decide) (hts _ kfl_N_34) (fun _ h9 => h9) rfl d_N_swap_32 ?_
        refine lv_iload_n hx hb d_N_swap_35 rfl (lv_at hl 2 rfl) ?_
        refine lv_iconst (v := 1) hx hb d_N_swap_36 (by decide) ?_
        refine lv_iadd hx hb d_N_swap_37 ?_
        refine va_iald hx hb hK hP 5 0 rfl rfl (by rw [ek, nI_1]; exact vp_in_nI (by omega) (by decide)) d_N_swap_38 ?_
        refine lv_istore_n (lv' := [(3, .int (N 5 (x1 + 1).toNatClampNeg)), (2, .int (N 5 x1.toNatClampNeg)), (0, .ref (a 0)), (1, .int x1)]) hx hb d_N_swap_39 rfl hl (by decide) rfl (fun ls hl => ?_)
        refine lv_iload_n hx hb d_N_swap_40 rfl (lv_at hl 1 rfl) ?_
        refine lv_if_lt (tgt := 66) hx hb d_N_swap_41 (by decide) (fun c41 => ?_) (fun c41 => ?_)
        · have hP9 : va_P (dC, dI) cls0 (nW cI a (j_swap N x1)) _ := (show N = j_swap N x1 from by simp only [j_swap, j_swap1, j_swap2, c1, c9, c20, c41, Int32.not_lt.mp c1, Int32.not_le.mp c9, Int32.not_le.mpr c20, Int32.not_le.mpr c41, if_true, if_false, not_true_eq_false, not_false_eq_true, true_and, and_true, false_and, and_false, true_or, or_true, false_or, or_false, ite_true, ite_false, eq_self]) ▸ hP
          have hD9 : va_D A (nW cI a (j_swap N x1)) := (show N = j_swap N x1 from by simp only [j_swap, j_swap1, j_swap2, c1, c9, c20, c41, Int32.not_lt.mp c1, Int32.not_le.mp c9, Int32.not_le.mpr c20, Int32.not_le.mpr c41, if_true, if_false, not_true_eq_false, not_false_eq_true, true_and, and_true, false_and, and_false, true_or, or_true, false_or, or_false, ite_true, ite_false, eq_self]) ▸ hD
          refine W.widen (k := mcW N (j_swap N x1)) (n := msW N (j_swap N x1)) (Nat.zero_le _) (Nat.zero_le _) ?_
          exact W.vret hx hb hr (fun t ht hW => ⟨⟨a, rfl, rfl, by rw [ht]; exact hP9, va_K.moved hW.alike hK, hD9⟩, hS.F ht⟩) hS.2.2 d_N_swap_66
        · refine lv_iload_n hx hb d_N_swap_44 rfl (lv_at hl 1 rfl) ?_
          refine lv_aload_n hx hb d_N_swap_45 rfl (lv_at hl 2 rfl) ?_
          refine va_get (D := (dC, dI)) (ci := 1) (v := .ref (a 4)) (C := R_N) (T := T_N) (N := 11) hx hb hts in_N hown hK hP 0 rfl rfl 3 (by decide) (hts _ kfl_N_31) (fun _ h9 => h9) rfl d_N_swap_46 ?_
          refine va_alen (v := nI 13) hx hb hK hP 4 0 rfl rfl rfl d_N_swap_49 ?_
          refine lv_icmp_ge (tgt := 66) hx hb d_N_swap_50 (by decide) (fun c50 => ?_) (fun c50 => ?_)
          · have hP9 : va_P (dC, dI) cls0 (nW cI a (j_swap N x1)) _ := (show N = j_swap N x1 from by simp only [j_swap, j_swap1, j_swap2, c1, c9, c20, c41, c50, Int32.not_lt.mp c1, Int32.not_le.mp c9, Int32.not_le.mpr c20, Int32.not_lt.mp c41, Int32.not_lt.mpr c50, if_true, if_false, not_true_eq_false, not_false_eq_true, true_and, and_true, false_and, and_false, true_or, or_true, false_or, or_false, ite_true, ite_false, eq_self]) ▸ hP
            have hD9 : va_D A (nW cI a (j_swap N x1)) := (show N = j_swap N x1 from by simp only [j_swap, j_swap1, j_swap2, c1, c9, c20, c41, c50, Int32.not_lt.mp c1, Int32.not_le.mp c9, Int32.not_le.mpr c20, Int32.not_lt.mp c41, Int32.not_lt.mpr c50, if_true, if_false, not_true_eq_false, not_false_eq_true, true_and, and_true, false_and, and_false, true_or, or_true, false_or, or_false, ite_true, ite_false, eq_self]) ▸ hD
            refine W.widen (k := mcW N (j_swap N x1)) (n := msW N (j_swap N x1)) (Nat.zero_le _) (Nat.zero_le _) ?_
            exact W.vret hx hb hr (fun t ht hW => ⟨⟨a, rfl, rfl, by rw [ht]; exact hP9, va_K.moved hW.alike hK, hD9⟩, hS.F ht⟩) hS.2.2 d_N_swap_66
          · refine lv_iload_n hx hb d_N_swap_53 rfl (lv_at hl 0 rfl) ?_
            refine lv_if_lt (tgt := 66) hx hb d_N_swap_54 (by decide) (fun c54 => ?_) (fun c54 => ?_)
            · have hP9 : va_P (dC, dI) cls0 (nW cI a (j_swap N x1)) _ := (show N = j_swap N x1 from by simp only [j_swap, j_swap1, j_swap2, c1, c9, c20, c41, c50, c54, Int32.not_lt.mp c1, Int32.not_le.mp c9, Int32.not_le.mpr c20, Int32.not_lt.mp c41, Int32.not_le.mp c50, Int32.not_le.mpr c54, if_true, if_false, not_true_eq_false, not_false_eq_true, true_and, and_true, false_and, and_false, true_or, or_true, false_or, or_false, ite_true, ite_false, eq_self]) ▸ hP
              have hD9 : va_D A (nW cI a (j_swap N x1)) := (show N = j_swap N x1 from by simp only [j_swap, j_swap1, j_swap2, c1, c9, c20, c41, c50, c54, Int32.not_lt.mp c1, Int32.not_le.mp c9, Int32.not_le.mpr c20, Int32.not_lt.mp c41, Int32.not_le.mp c50, Int32.not_le.mpr c54, if_true, if_false, not_true_eq_false, not_false_eq_true, true_and, and_true, false_and, and_false, true_or, or_true, false_or, or_false, ite_true, ite_false, eq_self]) ▸ hD
              refine W.widen (k := mcW N (j_swap N x1)) (n := msW N (j_swap N x1)) (Nat.zero_le _) (Nat.zero_le _) ?_
              exact W.vret hx hb hr (fun t ht hW => ⟨⟨a, rfl, rfl, by rw [ht]; exact hP9, va_K.moved hW.alike hK, hD9⟩, hS.F ht⟩) hS.2.2 d_N_swap_66
            · refine lv_iload_n hx hb d_N_swap_57 rfl (lv_at hl 0 rfl) ?_
              refine lv_aload_n hx hb d_N_swap_58 rfl (lv_at hl 2 rfl) ?_
              refine va_get (D := (dC, dI)) (ci := 1) (v := .ref (a 4)) (C := R_N) (T := T_N) (N := 11) hx hb hts in_N hown hK hP 0 rfl rfl 3 (by decide) (hts _ kfl_N_31) (fun _ h9 => h9) rfl d_N_swap_59 ?_
              refine va_alen (v := nI 13) hx hb hK hP 4 0 rfl rfl rfl d_N_swap_62 ?_
              refine lv_icmp_lt (tgt := 67) hx hb d_N_swap_63 (by decide) (fun c63 => ?_) (fun c63 => ?_)
              · refine lv_aload_n hx hb d_N_swap_67 rfl (lv_at hl 2 rfl) ?_
                refine va_get (D := (dC, dI)) (ci := 1) (v := .ref (a 5)) (C := R_N) (T := T_N) (N := 11) hx hb hts in_N hown hK hP 0 rfl rfl 4 (by decide) (hts _ kfl_N_34) (fun _ h9 => h9) rfl d_N_swap_68 ?_
                refine lv_iload_n hx hb d_N_swap_71 rfl (lv_at hl 3 rfl) ?_
                refine lv_iload_n hx hb d_N_swap_72 rfl (lv_at hl 0 rfl) ?_
                refine nAst5 hx hb hK hP hD hS (by rw [ek]; exact vp_in_nI (by omega) (by decide)) d_N_swap_73 (fun H locs hP hD hS => ?_)
                refine lv_aload_n hx hb d_N_swap_74 rfl (lv_at hl 2 rfl) ?_
                refine va_get (D := (dC, dI)) (ci := 1) (v := .ref (a 5)) (C := R_N) (T := T_N) (N := 11) hx hb hts in_N hown hK hP 0 rfl rfl 4 (by decide) (hts _ kfl_N_34) (fun _ h9 => h9) rfl d_N_swap_75 ?_
                refine lv_iload_n hx hb d_N_swap_78 rfl (lv_at hl 3 rfl) ?_
                refine lv_iconst (v := 1) hx hb d_N_swap_79 (by decide) ?_
                refine lv_iadd hx hb d_N_swap_80 ?_
                refine lv_iload_n hx hb d_N_swap_81 rfl (lv_at hl 1 rfl) ?_
                refine nAst5 hx hb hK hP hD hS (by rw [ek, nI_1]; exact vp_in_nI (by omega) (by decide)) d_N_swap_82 (fun H locs hP hD hS => ?_)
                refine lv_aload_n hx hb d_N_swap_83 rfl (lv_at hl 2 rfl) ?_
                refine va_get (D := (dC, dI)) (ci := 1) (v := .ref (a 4)) (C := R_N) (T := T_N) (N := 11) hx hb hts in_N hown hK hP 0 rfl rfl 3 (by decide) (hts _ kfl_N_31) (fun _ h9 => h9) rfl d_N_swap_84 ?_
                refine lv_iload_n hx hb d_N_swap_87 rfl (lv_at hl 0 rfl) ?_
                refine lv_iload_n hx hb d_N_swap_88 rfl (lv_at hl 3 rfl) ?_
                refine nAst4 hx hb hK hP hD hS (lt_of_in c54 (Int32.not_le.mpr c63) (by decide)) d_N_swap_89 (fun H locs hP hD hS => ?_)
                refine lv_aload_n hx hb d_N_swap_90 rfl (lv_at hl 2 rfl) ?_
                refine va_get (D := (dC, dI)) (ci := 1) (v := .ref (a 4)) (C := R_N) (T := T_N) (N := 11) hx hb hts in_N hown hK hP 0 rfl rfl 3 (by decide) (hts _ kfl_N_31) (fun _ h9 => h9) rfl d_N_swap_91 ?_
                refine lv_iload_n hx hb d_N_swap_94 rfl (lv_at hl 1 rfl) ?_
                refine lv_iload_n hx hb d_N_swap_95 rfl (lv_at hl 3 rfl) ?_
                refine lv_iconst (v := 1) hx hb d_N_swap_96 (by decide) ?_
                refine lv_iadd hx hb d_N_swap_97 ?_
                refine nAst4 hx hb hK hP hD hS (lt_of_in c41 c50 (by decide)) d_N_swap_98 (fun H locs hP hD hS => ?_)
                refine lv_aload_n hx hb d_N_swap_99 rfl (lv_at hl 2 rfl) ?_
                refine lv_iload_n hx hb d_N_swap_100 rfl (lv_at hl 1 rfl) ?_
                refine nCallR (As := [.int (N 5 x1.toNatClampNeg)]) (rest := []) ⟨hx, hb, hml, hown, hts⟩ (c_N_heldFor l dC dI cI a (up (up (up (up N 5 x1.toNatClampNeg (N 5 (x1 + 1).toNatClampNeg)) 5 (x1 + 1).toNatClampNeg (N 5 x1.toNatClampNeg)) 4 (N 5 (x1 + 1).toNatClampNeg).toNatClampNeg x1) 4 (N 5 x1.toNatClampNeg).toNatClampNeg (x1 + 1)) (N 5 x1.toNatClampNeg)) (cwV 1 hts (gV kml_N_109 kim_N_heldFor ksl_N_heldFor kin_N kcd_N_heldFor) rfl rfl rfl (by decide +kernel) ⟨Nat.le_of_ble_eq_true rfl, Nat.le_of_ble_eq_true rfl⟩) hP hK rfl hl.1 rfl (Nat.le_of_ble_eq_true rfl) d_N_swap_101 ⟨Nat.zero_le _, Nat.zero_le _⟩ ?_
                refine lv_if_eq (tgt := 115) hx hb d_N_swap_104 (by decide) (fun c104 => ?_) (fun c104 => ?_)
                · have hP9 : va_P (dC, dI) cls0 (nW cI a (j_swap N x1)) _ := (show up (up (up (up N 5 x1.toNatClampNeg (N 5 (x1 + 1).toNatClampNeg)) 5 (x1 + 1).toNatClampNeg (N 5 x1.toNatClampNeg)) 4 (N 5 (x1 + 1).toNatClampNeg).toNatClampNeg x1) 4 (N 5 x1.toNatClampNeg).toNatClampNeg (x1 + 1) = j_swap N x1 from by (first | (simp only [j_swap, j_swap1, j_swap2, c1, c9, c20, c41, c50, c54, c63, if_pos c104, Int32.not_lt.mp c1, Int32.not_le.mp c9, Int32.not_le.mpr c20, Int32.not_lt.mp c41, Int32.not_le.mp c50, Int32.not_lt.mp c54, Int32.not_le.mpr c63, if_true, if_false, not_true_eq_false, not_false_eq_true, true_and, and_true, false_and, and_false, true_or, or_true, false_or, or_false, ite_true, ite_false, eq_self]; done) | (simp only [j_swap, j_swap1, j_swap2, c1, c9, c20, c41, c50, c54, c63, c104, Int32.not_lt.mp c1, Int32.not_le.mp c9, Int32.not_le.mpr c20, Int32.not_lt.mp c41, Int32.not_le.mp c50, Int32.not_lt.mp c54, Int32.not_le.mpr c63, if_true, if_false, not_true_eq_false, not_false_eq_true, true_and, and_true, false_and, and_false, true_or, or_true, false_or, or_false, ite_true, ite_false, eq_self]; done) | (simp only [j_swap, j_swap1, j_swap2, c1, c9, c20, c41, c50, c54, c63, Int32.not_lt.mp c1, Int32.not_le.mp c9, Int32.not_le.mpr c20, Int32.not_lt.mp c41, Int32.not_le.mp c50, Int32.not_lt.mp c54, Int32.not_le.mpr c63, if_true, if_false, not_true_eq_false, not_false_eq_true, true_and, and_true, false_and, and_false, true_or, or_true, false_or, or_false, ite_true, ite_false, eq_self]; rw [if_pos c104]; done))) ▸ hP
                  have hD9 : va_D A (nW cI a (j_swap N x1)) := (show up (up (up (up N 5 x1.toNatClampNeg (N 5 (x1 + 1).toNatClampNeg)) 5 (x1 + 1).toNatClampNeg (N 5 x1.toNatClampNeg)) 4 (N 5 (x1 + 1).toNatClampNeg).toNatClampNeg x1) 4 (N 5 x1.toNatClampNeg).toNatClampNeg (x1 + 1) = j_swap N x1 from by (first | (simp only [j_swap, j_swap1, j_swap2, c1, c9, c20, c41, c50, c54, c63, if_pos c104, Int32.not_lt.mp c1, Int32.not_le.mp c9, Int32.not_le.mpr c20, Int32.not_lt.mp c41, Int32.not_le.mp c50, Int32.not_lt.mp c54, Int32.not_le.mpr c63, if_true, if_false, not_true_eq_false, not_false_eq_true, true_and, and_true, false_and, and_false, true_or, or_true, false_or, or_false, ite_true, ite_false, eq_self]; done) | (simp only [j_swap, j_swap1, j_swap2, c1, c9, c20, c41, c50, c54, c63, c104, Int32.not_lt.mp c1, Int32.not_le.mp c9, Int32.not_le.mpr c20, Int32.not_lt.mp c41, Int32.not_le.mp c50, Int32.not_lt.mp c54, Int32.not_le.mpr c63, if_true, if_false, not_true_eq_false, not_false_eq_true, true_and, and_true, false_and, and_false, true_or, or_true, false_or, or_false, ite_true, ite_false, eq_self]; done) | (simp only [j_swap, j_swap1, j_swap2, c1, c9, c20, c41, c50, c54, c63, Int32.not_lt.mp c1, Int32.not_le.mp c9, Int32.not_le.mpr c20, Int32.not_lt.mp c41, Int32.not_le.mp c50, Int32.not_lt.mp c54, Int32.not_le.mpr c63, if_true, if_false, not_true_eq_false, not_false_eq_true, true_and, and_true, false_and, and_false, true_or, or_true, false_or, or_false, ite_true, ite_false, eq_self]; rw [if_pos c104]; done))) ▸ hD
                  refine W.widen (k := mcW N (j_swap N x1)) (n := msW N (j_swap N x1)) (Nat.zero_le _) (Nat.zero_le _) ?_
                  exact W.vret hx hb hr (fun t ht hW => ⟨⟨a, rfl, rfl, by rw [ht]; exact hP9, va_K.moved hW.alike hK, hD9⟩, hS.F ht⟩) hS.2.2 d_N_swap_115
                · refine lv_aload_n hx hb d_N_swap_107 rfl (lv_at hl 2 rfl) ?_
                  refine lv_iload_n hx hb d_N_swap_108 rfl (lv_at hl 0 rfl) ?_
                  refine nCallR (As := [.int (N 5 (x1 + 1).toNatClampNeg)]) (rest := []) ⟨hx, hb, hml, hown, hts⟩ (c_N_heldFor l dC dI cI a (up (up (up (up N 5 x1.toNatClampNeg (N 5 (x1 + 1).toNatClampNeg)) 5 (x1 + 1).toNatClampNeg (N 5 x1.toNatClampNeg)) 4 (N 5 (x1 + 1).toNatClampNeg).toNatClampNeg x1) 4 (N 5 x1.toNatClampNeg).toNatClampNeg (x1 + 1)) (N 5 (x1 + 1).toNatClampNeg)) (cwV 1 hts (gV kml_N_109 kim_N_heldFor ksl_N_heldFor kin_N kcd_N_heldFor) rfl rfl rfl (by decide +kernel) ⟨Nat.le_of_ble_eq_true rfl, Nat.le_of_ble_eq_true rfl⟩) hP hK rfl hl.1 rfl (Nat.le_of_ble_eq_true rfl) d_N_swap_109 ⟨Nat.zero_le _, Nat.zero_le _⟩ ?_
                  refine lv_if_ne (tgt := 116) hx hb d_N_swap_112 (by decide) (fun c112 => ?_) (fun c112 => ?_)
                  · have eS : j_swap N x1 = j_swap3 (j_widen (up (up (up (up N 5 x1.toNatClampNeg (N 5 (x1 + 1).toNatClampNeg)) 5 (x1 + 1).toNatClampNeg (N 5 x1.toNatClampNeg)) 4 (N 5 (x1 + 1).toNatClampNeg).toNatClampNeg x1) 4 (N 5 x1.toNatClampNeg).toNatClampNeg (x1 + 1)) ((up (up (up (up N 5 x1.toNatClampNeg (N 5 (x1 + 1).toNatClampNeg)) 5 (x1 + 1).toNatClampNeg (N 5 x1.toNatClampNeg)) 4 (N 5 (x1 + 1).toNatClampNeg).toNatClampNeg x1) 4 (N 5 x1.toNatClampNeg).toNatClampNeg (x1 + 1)) 0 3 + (2 * (j_heldFor (up (up (up (up N 5 x1.toNatClampNeg (N 5 (x1 + 1).toNatClampNeg)) 5 (x1 + 1).toNatClampNeg (N 5 x1.toNatClampNeg)) 4 (N 5 (x1 + 1).toNatClampNeg).toNatClampNeg x1) 4 (N 5 x1.toNatClampNeg).toNatClampNeg (x1 + 1)) (N 5 x1.toNatClampNeg))))) (N 5 x1.toNatClampNeg) (N 5 (x1 + 1).toNatClampNeg) := by simp only [j_swap, j_swap1, j_swap2, c1, c9, c20, c41, c50, c54, c63, c104, c112, Int32.not_lt.mp c1, Int32.not_le.mp c9, Int32.not_le.mpr c20, Int32.not_lt.mp c41, Int32.not_le.mp c50, Int32.not_lt.mp c54, Int32.not_le.mpr c63, if_true, if_false, not_true_eq_false, not_false_eq_true, true_and, and_true, false_and, and_false, true_or, or_true, false_or, or_false, ite_true, ite_false, eq_self]
                    have eC : mcW N (j_swap N x1) = mcW (up (up (up (up N 5 x1.toNatClampNeg (N 5 (x1 + 1).toNatClampNeg)) 5 (x1 + 1).toNatClampNeg (N 5 x1.toNatClampNeg)) 4 (N 5 (x1 + 1).toNatClampNeg).toNatClampNeg x1) 4 (N 5 x1.toNatClampNeg).toNatClampNeg (x1 + 1)) (j_widen (up (up (up (up N 5 x1.toNatClampNeg (N 5 (x1 + 1).toNatClampNeg)) 5 (x1 + 1).toNatClampNeg (N 5 x1.toNatClampNeg)) 4 (N 5 (x1 + 1).toNatClampNeg).toNatClampNeg x1) 4 (N 5 x1.toNatClampNeg).toNatClampNeg (x1 + 1)) ((up (up (up (up N 5 x1.toNatClampNeg (N 5 (x1 + 1).toNatClampNeg)) 5 (x1 + 1).toNatClampNeg (N 5 x1.toNatClampNeg)) 4 (N 5 (x1 + 1).toNatClampNeg).toNatClampNeg x1) 4 (N 5 x1.toNatClampNeg).toNatClampNeg (x1 + 1)) 0 3 + (2 * (j_heldFor (up (up (up (up N 5 x1.toNatClampNeg (N 5 (x1 + 1).toNatClampNeg)) 5 (x1 + 1).toNatClampNeg (N 5 x1.toNatClampNeg)) 4 (N 5 (x1 + 1).toNatClampNeg).toNatClampNeg x1) 4 (N 5 x1.toNatClampNeg).toNatClampNeg (x1 + 1)) (N 5 x1.toNatClampNeg))))) := by unfold mcW rmN; rw [eS, swap3_00, uq_4_0, uq_4_0, uq_5_0, uq_5_0]
                    have eD : msW N (j_swap N x1) = msW (up (up (up (up N 5 x1.toNatClampNeg (N 5 (x1 + 1).toNatClampNeg)) 5 (x1 + 1).toNatClampNeg (N 5 x1.toNatClampNeg)) 4 (N 5 (x1 + 1).toNatClampNeg).toNatClampNeg x1) 4 (N 5 x1.toNatClampNeg).toNatClampNeg (x1 + 1)) (j_widen (up (up (up (up N 5 x1.toNatClampNeg (N 5 (x1 + 1).toNatClampNeg)) 5 (x1 + 1).toNatClampNeg (N 5 x1.toNatClampNeg)) 4 (N 5 (x1 + 1).toNatClampNeg).toNatClampNeg x1) 4 (N 5 x1.toNatClampNeg).toNatClampNeg (x1 + 1)) ((up (up (up (up N 5 x1.toNatClampNeg (N 5 (x1 + 1).toNatClampNeg)) 5 (x1 + 1).toNatClampNeg (N 5 x1.toNatClampNeg)) 4 (N 5 (x1 + 1).toNatClampNeg).toNatClampNeg x1) 4 (N 5 x1.toNatClampNeg).toNatClampNeg (x1 + 1)) 0 3 + (2 * (j_heldFor (up (up (up (up N 5 x1.toNatClampNeg (N 5 (x1 + 1).toNatClampNeg)) 5 (x1 + 1).toNatClampNeg (N 5 x1.toNatClampNeg)) 4 (N 5 (x1 + 1).toNatClampNeg).toNatClampNeg x1) 4 (N 5 x1.toNatClampNeg).toNatClampNeg (x1 + 1)) (N 5 x1.toNatClampNeg))))) := by unfold msW rmN; rw [eS, swap3_00, uq_4_0, uq_4_0, uq_5_0, uq_5_0]
                    refine lv_aload_n hx hb d_N_swap_116 rfl (lv_at hl 2 rfl) ?_
                    refine lv_aload_n hx hb d_N_swap_117 rfl (lv_at hl 2 rfl) ?_
                    refine va_get (D := (dC, dI)) (ci := 1) (v := .int ((up (up (up (up N 5 x1.toNatClampNeg (N 5 (x1 + 1).toNatClampNeg)) 5 (x1 + 1).toNatClampNeg (N 5 x1.toNatClampNeg)) 4 (N 5 (x1 + 1).toNatClampNeg).toNatClampNeg x1) 4 (N 5 x1.toNatClampNeg).toNatClampNeg (x1 + 1)) 0 3)) (C := R_N) (T := T_N) (N := 11) hx hb hts in_N hown hK hP 0 rfl rfl 8 (by decide) (hts _ kfl_N_40) (fun _ h9 => h9) rfl d_N_swap_118 ?_
                    refine lv_iconst (v := 2) hx hb d_N_swap_121 (by decide) ?_
                    refine lv_aload_n hx hb d_N_swap_122 rfl (lv_at hl 2 rfl) ?_
                    refine lv_iload_n hx hb d_N_swap_123 rfl (lv_at hl 1 rfl) ?_
                    refine nCallR (As := [.int (N 5 x1.toNatClampNeg)]) (rest := [.int 2, .int ((up (up (up (up N 5 x1.toNatClampNeg (N 5 (x1 + 1).toNatClampNeg)) 5 (x1 + 1).toNatClampNeg (N 5 x1.toNatClampNeg)) 4 (N 5 (x1 + 1).toNatClampNeg).toNatClampNeg x1) 4 (N 5 x1.toNatClampNeg).toNatClampNeg (x1 + 1)) 0 3), .ref (a 0)]) ⟨hx, hb, hml, hown, hts⟩ (c_N_heldFor l dC dI cI a (up (up (up (up N 5 x1.toNatClampNeg (N 5 (x1 + 1).toNatClampNeg)) 5 (x1 + 1).toNatClampNeg (N 5 x1.toNatClampNeg)) 4 (N 5 (x1 + 1).toNatClampNeg).toNatClampNeg x1) 4 (N 5 x1.toNatClampNeg).toNatClampNeg (x1 + 1)) (N 5 x1.toNatClampNeg)) (cwV 1 hts (gV kml_N_109 kim_N_heldFor ksl_N_heldFor kin_N kcd_N_heldFor) rfl rfl rfl (by decide +kernel) ⟨Nat.le_of_ble_eq_true rfl, Nat.le_of_ble_eq_true rfl⟩) hP hK rfl hl.1 rfl (Nat.le_of_ble_eq_true rfl) d_N_swap_124 ⟨Nat.zero_le _, Nat.zero_le _⟩ ?_
                    refine lv_imul hx hb d_N_swap_127 ?_
                    refine lv_iadd hx hb d_N_swap_128 ?_
                    refine nCallW (As := [.int (((up (up (up (up N 5 x1.toNatClampNeg (N 5 (x1 + 1).toNatClampNeg)) 5 (x1 + 1).toNatClampNeg (N 5 x1.toNatClampNeg)) 4 (N 5 (x1 + 1).toNatClampNeg).toNatClampNeg x1) 4 (N 5 x1.toNatClampNeg).toNatClampNeg (x1 + 1)) 0 3) + (2 * (j_heldFor (up (up (up (up N 5 x1.toNatClampNeg (N 5 (x1 + 1).toNatClampNeg)) 5 (x1 + 1).toNatClampNeg (N 5 x1.toNatClampNeg)) 4 (N 5 (x1 + 1).toNatClampNeg).toNatClampNeg x1) 4 (N 5 x1.toNatClampNeg).toNatClampNeg (x1 + 1)) (N 5 x1.toNatClampNeg))))]) (rest := []) ⟨hx, hb, hml, hown, hts⟩ (c_N_widen l dC dI cI a (up (up (up (up N 5 x1.toNatClampNeg (N 5 (x1 + 1).toNatClampNeg)) 5 (x1 + 1).toNatClampNeg (N 5 x1.toNatClampNeg)) 4 (N 5 (x1 + 1).toNatClampNeg).toNatClampNeg x1) 4 (N 5 x1.toNatClampNeg).toNatClampNeg (x1 + 1)) _ (((up (up (up (up N 5 x1.toNatClampNeg (N 5 (x1 + 1).toNatClampNeg)) 5 (x1 + 1).toNatClampNeg (N 5 x1.toNatClampNeg)) 4 (N 5 (x1 + 1).toNatClampNeg).toNatClampNeg x1) 4 (N 5 x1.toNatClampNeg).toNatClampNeg (x1 + 1)) 0 3) + (2 * (j_heldFor (up (up (up (up N 5 x1.toNatClampNeg (N 5 (x1 + 1).toNatClampNeg)) 5 (x1 + 1).toNatClampNeg (N 5 x1.toNatClampNeg)) 4 (N 5 (x1 + 1).toNatClampNeg).toNatClampNeg x1) 4 (N 5 x1.toNatClampNeg).toNatClampNeg (x1 + 1)) (N 5 x1.toNatClampNeg)))) R0 hR h1 h2) (cwV 1 hts (gV kml_N_93 kim_N_widen ksl_N_widen kin_N kcd_N_widen) rfl rfl rfl (by decide +kernel) ⟨Nat.le_of_ble_eq_true rfl, Nat.le_of_ble_eq_true rfl⟩) hP hK hD hS hA rfl hl.1 rfl (Nat.le_of_ble_eq_true rfl) d_N_swap_129 ⟨by show 0 + _ ≤ mcW N (j_swap N x1); omega, by show 0 + _ ≤ msW N (j_swap N x1); omega⟩ (fun u H locs hu hP hD hS => ?_)
                    rw [← hu] at hl
                    refine W.widen (k := mcW N (j_swap N x1)) (n := msW N (j_swap N x1)) (by omega) (by omega) ?_
                    refine lv_aload_n hx hb d_N_swap_132 rfl (lv_at hl 2 rfl) ?_
                    refine lv_iload_n hx hb d_N_swap_133 rfl (lv_at hl 1 rfl) ?_
                    refine lv_iload_n hx hb d_N_swap_134 rfl (lv_at hl 0 rfl) ?_
                    refine nCalli (As := [.int (N 5 x1.toNatClampNeg), .int (N 5 (x1 + 1).toNatClampNeg)]) (rest := []) ⟨hx, hb, hml, hown, hts⟩ (c_N_detach l dC dI cI u (j_widen (up (up (up (up N 5 x1.toNatClampNeg (N 5 (x1 + 1).toNatClampNeg)) 5 (x1 + 1).toNatClampNeg (N 5 x1.toNatClampNeg)) 4 (N 5 (x1 + 1).toNatClampNeg).toNatClampNeg x1) 4 (N 5 x1.toNatClampNeg).toNatClampNeg (x1 + 1)) (((up (up (up (up N 5 x1.toNatClampNeg (N 5 (x1 + 1).toNatClampNeg)) 5 (x1 + 1).toNatClampNeg (N 5 x1.toNatClampNeg)) 4 (N 5 (x1 + 1).toNatClampNeg).toNatClampNeg x1) 4 (N 5 x1.toNatClampNeg).toNatClampNeg (x1 + 1)) 0 3) + (2 * (j_heldFor (up (up (up (up N 5 x1.toNatClampNeg (N 5 (x1 + 1).toNatClampNeg)) 5 (x1 + 1).toNatClampNeg (N 5 x1.toNatClampNeg)) 4 (N 5 (x1 + 1).toNatClampNeg).toNatClampNeg x1) 4 (N 5 x1.toNatClampNeg).toNatClampNeg (x1 + 1)) (N 5 x1.toNatClampNeg))))) _ (N 5 x1.toNatClampNeg) (N 5 (x1 + 1).toNatClampNeg) w0 hw0 ew0) (cwV 2 hts (gV kml_N_112 kim_N_detach ksl_N_detach kin_N kcd_N_detach) rfl rfl rfl (by decide +kernel) ⟨Nat.le_of_ble_eq_true rfl, Nat.le_of_ble_eq_true rfl⟩) hP hK hD hS hA rfl hl.1 rfl (Nat.le_of_ble_eq_true rfl) d_N_swap_135 ⟨Nat.le_refl _, Nat.le_refl _⟩ (fun H locs hP hD hS => ?_)
                    refine lv_istore (lv' := [(4, .int ((j_detach (j_widen (up (up (up (up N 5 x1.toNatClampNeg (N 5 (x1 + 1).toNatClampNeg)) 5 (x1 + 1).toNatClampNeg (N 5 x1.toNatClampNeg)) 4 (N 5 (x1 + 1).toNatClampNeg).toNatClampNeg x1) 4 (N 5 x1.toNatClampNeg).toNatClampNeg (x1 + 1)) (((up (up (up (up N 5 x1.toNatClampNeg (N 5 (x1 + 1).toNatClampNeg)) 5 (x1 + 1).toNatClampNeg (N 5 x1.toNatClampNeg)) 4 (N 5 (x1 + 1).toNatClampNeg).toNatClampNeg x1) 4 (N 5 x1.toNatClampNeg).toNatClampNeg (x1 + 1)) 0 3) + (2 * (j_heldFor (up (up (up (up N 5 x1.toNatClampNeg (N 5 (x1 + 1).toNatClampNeg)) 5 (x1 + 1).toNatClampNeg (N 5 x1.toNatClampNeg)) 4 (N 5 (x1 + 1).toNatClampNeg).toNatClampNeg x1) 4 (N 5 x1.toNatClampNeg).toNatClampNeg (x1 + 1)) (N 5 x1.toNatClampNeg))))) (N 5 x1.toNatClampNeg) (N 5 (x1 + 1).toNatClampNeg)).2)), (3, .int (N 5 (x1 + 1).toNatClampNeg)), (2, .int (N 5 x1.toNatClampNeg)), (0, .ref (u 0)), (1, .int x1)]) hx hb d_N_swap_138 hl (by decide) rfl (fun ls hl => ?_)
                    refine lv_iconst (v := 0) hx hb d_N_swap_140 (by decide) ?_
                    refine lv_istore (lv' := [(5, .int 0), (4, .int ((j_detach (j_widen (up (up (up (up N 5 x1.toNatClampNeg (N 5 (x1 + 1).toNatClampNeg)) 5 (x1 + 1).toNatClampNeg (N 5 x1.toNatClampNeg)) 4 (N 5 (x1 + 1).toNatClampNeg).toNatClampNeg x1) 4 (N 5 x1.toNatClampNeg).toNatClampNeg (x1 + 1)) (((up (up (up (up N 5 x1.toNatClampNeg (N 5 (x1 + 1).toNatClampNeg)) 5 (x1 + 1).toNatClampNeg (N 5 x1.toNatClampNeg)) 4 (N 5 (x1 + 1).toNatClampNeg).toNatClampNeg x1) 4 (N 5 x1.toNatClampNeg).toNatClampNeg (x1 + 1)) 0 3) + (2 * (j_heldFor (up (up (up (up N 5 x1.toNatClampNeg (N 5 (x1 + 1).toNatClampNeg)) 5 (x1 + 1).toNatClampNeg (N 5 x1.toNatClampNeg)) 4 (N 5 (x1 + 1).toNatClampNeg).toNatClampNeg x1) 4 (N 5 x1.toNatClampNeg).toNatClampNeg (x1 + 1)) (N 5 x1.toNatClampNeg))))) (N 5 x1.toNatClampNeg) (N 5 (x1 + 1).toNatClampNeg)).2)), (3, .int (N 5 (x1 + 1).toNatClampNeg)), (2, .int (N 5 x1.toNatClampNeg)), (0, .ref (u 0)), (1, .int x1)]) hx hb d_N_swap_141 hl (by decide) rfl (fun ls hl => ?_)
                    have loop : ∀ (n : Nat) (N1 : Mm) (i : Nat) (x4 : Int32) (H : Heap) (locs : List Loc), i + n = 24800 → j_swap N x1 = j_swapL (N 5 x1.toNatClampNeg) (N 5 (x1 + 1).toNatClampNeg) n N1 x4 → va_P (dC, dI) cls0 (nW cI u N1) H → va_D A (nW cI u N1) → va_S A s.heap H locs → ∀ (ls : Array Slot), lv_has ls 7 [(5, .int (nI i)), (4, .int x4), (3, .int (N 5 (x1 + 1).toNatClampNeg)), (2, .int (N 5 x1.toNatClampNeg)), (0, .ref (u 0)), (1, .int x1)] → W p l e (headSpec (.code y_N_swap b_N_swap 7 none :: W0) ({ frames := 4, cells := (mcW N (j_swap N x1)), slots := (msW N (j_swap N x1)), locals := 104 } : Room)).room s m ([.ref (a 0), .int x1] : List Value).toArray below meth c H locs (mcW N (j_swap N x1)) (msW N (j_swap N x1)) (MQ below (va_Qv (fun u : Nat → Nat => u 0 = a 0) (fun u t => nE dC dI cI u (j_swap N x1) A t) A) ([.ref (a 0), .int x1] : List Value).toArray s (mcW N (j_swap N x1)) (msW N (j_swap N x1)) A) (F0 m 143 ls []) := by
                      intro n
                      induction n with
                      | zero =>
                        intro N1 i x4 H locs hi hr0 hP hD hS ls hl
                        refine lv_iload hx hb d_N_swap_143 (lv_at hl 0 rfl) ?_
                        refine lv_sipush (v := 24800) hx hb d_N_swap_145 (by decide) ?_
                        refine lv_icmp_ge (tgt := 183) hx hb d_N_swap_148 (by decide) (fun c148 => ?_) (fun c148 => ?_)
                        · have hP9 : va_P (dC, dI) cls0 (nW cI u (j_swap N x1)) _ := (show N1 = j_swap N x1 from by rw [hr0]; simp only [j_swapL, c148, Int32.not_lt.mpr c148, if_true, if_false, not_true_eq_false, not_false_eq_true, true_and, and_true, false_and, and_false, true_or, or_true, false_or, or_false, ite_true, ite_false, eq_self]) ▸ hP
                          have hD9 : va_D A (nW cI u (j_swap N x1)) := (show N1 = j_swap N x1 from by rw [hr0]; simp only [j_swapL, c148, Int32.not_lt.mpr c148, if_true, if_false, not_true_eq_false, not_false_eq_true, true_and, and_true, false_and, and_false, true_or, or_true, false_or, or_false, ite_true, ite_false, eq_self]) ▸ hD
                          refine W.widen (k := mcW N (j_swap N x1)) (n := msW N (j_swap N x1)) (Nat.le_refl _) (Nat.le_refl _) ?_
                          exact W.vret hx hb hr (fun t ht hW => ⟨⟨u, rfl, hu, by rw [ht]; exact hP9, va_K.moved hW.alike hK, hD9⟩, hS.F ht⟩) hS.2.2 d_N_swap_183
                        · exact absurd (nI_le (a := 24800) (b := i) (by omega) (by omega)) c148
                      | succ n ih =>
                        intro N1 i x4 H locs hi hr0 hP hD hS ls hl
                        refine lv_iload hx hb d_N_swap_143 (lv_at hl 0 rfl) ?_
                        refine lv_sipush (v := 24800) hx hb d_N_swap_145 (by decide) ?_
                        refine lv_icmp_ge (tgt := 183) hx hb d_N_swap_148 (by decide) (fun c148 => ?_) (fun c148 => ?_)
                        · exact absurd c148 (nI_ge (a := i) (b := 24800) (by omega) (by omega))
                        · refine lv_iload hx hb d_N_swap_151 (lv_at hl 1 rfl) ?_
                          refine lv_if_eq (tgt := 183) hx hb d_N_swap_153 (by decide) (fun c153 => ?_) (fun c153 => ?_)
                          · have hP9 : va_P (dC, dI) cls0 (nW cI u (j_swap N x1)) _ := (show N1 = j_swap N x1 from by rw [hr0]; (first | (simp only [j_swapL, c148, if_pos c153, Int32.not_le.mp c148, if_true, if_false, not_true_eq_false, not_false_eq_true, true_and, and_true, false_and, and_false, true_or, or_true, false_or, or_false, ite_true, ite_false, eq_self]; done) | (simp only [j_swapL, c148, c153, Int32.not_le.mp c148, if_true, if_false, not_true_eq_false, not_false_eq_true, true_and, and_true, false_and, and_false, true_or, or_true, false_or, or_false, ite_true, ite_false, eq_self]; done) | (simp only [j_swapL, c148, Int32.not_le.mp c148, if_true, if_false, not_true_eq_false, not_false_eq_true, true_and, and_true, false_and, and_false, true_or, or_true, false_or, or_false, ite_true, ite_false, eq_self]; rw [if_pos c153]; done))) ▸ hP
                            have hD9 : va_D A (nW cI u (j_swap N x1)) := (show N1 = j_swap N x1 from by rw [hr0]; (first | (simp only [j_swapL, c148, if_pos c153, Int32.not_le.mp c148, if_true, if_false, not_true_eq_false, not_false_eq_true, true_and, and_true, false_and, and_false, true_or, or_true, false_or, or_false, ite_true, ite_false, eq_self]; done) | (simp only [j_swapL, c148, c153, Int32.not_le.mp c148, if_true, if_false, not_true_eq_false, not_false_eq_true, true_and, and_true, false_and, and_false, true_or, or_true, false_or, or_false, ite_true, ite_false, eq_self]; done) | (simp only [j_swapL, c148, Int32.not_le.mp c148, if_true, if_false, not_true_eq_false, not_false_eq_true, true_and, and_true, false_and, and_false, true_or, or_true, false_or, or_false, ite_true, ite_false, eq_self]; rw [if_pos c153]; done))) ▸ hD
                            refine W.widen (k := mcW N (j_swap N x1)) (n := msW N (j_swap N x1)) (Nat.le_refl _) (Nat.le_refl _) ?_
                            exact W.vret hx hb hr (fun t ht hW => ⟨⟨u, rfl, hu, by rw [ht]; exact hP9, va_K.moved hW.alike hK, hD9⟩, hS.F ht⟩) hS.2.2 d_N_swap_183
                          · refine lv_aload_n hx hb d_N_swap_156 rfl (lv_at hl 4 rfl) ?_
                            refine lv_iload hx hb d_N_swap_157 (lv_at hl 1 rfl) ?_
                            refine lv_iconst (v := 3) hx hb d_N_swap_159 (by decide) ?_
                            refine nCallR (As := [.int x4, .int 3]) (rest := []) ⟨hx, hb, hml, hown, hts⟩ (c_N_get l dC dI cI u N1 x4 3) (cwV 2 hts (gV kml_N_46 kim_N_get ksl_N_get kin_N kcd_N_get) rfl rfl rfl (by decide +kernel) ⟨Nat.le_of_ble_eq_true rfl, Nat.le_of_ble_eq_true rfl⟩) hP hK rfl hl.1 rfl (Nat.le_of_ble_eq_true rfl) d_N_swap_160 ⟨Nat.le_refl _, Nat.le_refl _⟩ ?_
                            refine lv_istore (lv' := [(6, .int (j_get N1 x4 3)), (5, .int (nI i)), (4, .int x4), (3, .int (N 5 (x1 + 1).toNatClampNeg)), (2, .int (N 5 x1.toNatClampNeg)), (0, .ref (u 0)), (1, .int x1)]) hx hb d_N_swap_163 hl (by decide) rfl (fun ls hl => ?_)
                            refine lv_aload_n hx hb d_N_swap_165 rfl (lv_at hl 5 rfl) ?_
                            refine lv_iload hx hb d_N_swap_166 (lv_at hl 2 rfl) ?_
                            refine lv_iload_n hx hb d_N_swap_168 rfl (lv_at hl 4 rfl) ?_
                            refine lv_iload_n hx hb d_N_swap_169 rfl (lv_at hl 3 rfl) ?_
                            refine nCallv (As := [.int x4, .int (N 5 x1.toNatClampNeg), .int (N 5 (x1 + 1).toNatClampNeg)]) (rest := []) ⟨hx, hb, hml, hown, hts⟩ (c_N_rewrite l dC dI cI u N1 _ x4 (N 5 x1.toNatClampNeg) (N 5 (x1 + 1).toNatClampNeg)) (cwV 3 hts (gV kml_N_115 kim_N_rewrite ksl_N_rewrite kin_N kcd_N_rewrite) rfl rfl rfl (by decide +kernel) ⟨Nat.le_of_ble_eq_true rfl, Nat.le_of_ble_eq_true rfl⟩) hP hK hD hS hA rfl hl.1 rfl (Nat.le_of_ble_eq_true rfl) d_N_swap_170 ⟨Nat.le_refl _, Nat.le_refl _⟩ (fun H locs hP hD hS => ?_)
                            refine lv_iload hx hb d_N_swap_173 (lv_at hl 0 rfl) ?_
                            refine lv_istore (lv' := [(4, .int (j_get N1 x4 3)), (6, .int (j_get N1 x4 3)), (5, .int (nI i)), (3, .int (N 5 (x1 + 1).toNatClampNeg)), (2, .int (N 5 x1.toNatClampNeg)), (0, .ref (u 0)), (1, .int x1)]) hx hb d_N_swap_175 hl (by decide) rfl (fun ls hl => ?_)
                            refine lv_iinc (v := ((nI i) + 1)) (lv' := [(5, .int ((nI i) + 1)), (4, .int (j_get N1 x4 3)), (6, .int (j_get N1 x4 3)), (3, .int (N 5 (x1 + 1).toNatClampNeg)), (2, .int (N 5 x1.toNatClampNeg)), (0, .ref (u 0)), (1, .int x1)]) hx hb d_N_swap_177 hl (k := 2) rfl rfl (by decide) rfl (fun ls hl => ?_)
                            refine lv_goto (tgt := 143) hx hb d_N_swap_180 (by decide) ?_
                            rw [nI_1] at hl
                            exact ih _ (i + 1) _ H locs (by omega) (by rw [hr0]; simp only [j_swapL, c148, c153, Int32.not_le.mp c148, if_true, if_false, not_true_eq_false, not_false_eq_true, true_and, and_true, false_and, and_false, true_or, or_true, false_or, or_false, ite_true, ite_false, eq_self]) hP hD hS ls (lv_sub hl [0, 1, 3, 4, 5, 6] rfl)
                    exact loop 24800 _ 0 _ H locs rfl (by rw [eS]; rfl) hP hD hS ls (lv_sub hl [0, 1, 2, 3, 4, 5] rfl)
                  · have hP9 : va_P (dC, dI) cls0 (nW cI a (j_swap N x1)) _ := (show up (up (up (up N 5 x1.toNatClampNeg (N 5 (x1 + 1).toNatClampNeg)) 5 (x1 + 1).toNatClampNeg (N 5 x1.toNatClampNeg)) 4 (N 5 (x1 + 1).toNatClampNeg).toNatClampNeg x1) 4 (N 5 x1.toNatClampNeg).toNatClampNeg (x1 + 1) = j_swap N x1 from by (first | (simp only [j_swap, j_swap1, j_swap2, c1, c9, c20, c41, c50, c54, c63, c104, if_pos c112, Int32.not_lt.mp c1, Int32.not_le.mp c9, Int32.not_le.mpr c20, Int32.not_lt.mp c41, Int32.not_le.mp c50, Int32.not_lt.mp c54, Int32.not_le.mpr c63, if_true, if_false, not_true_eq_false, not_false_eq_true, true_and, and_true, false_and, and_false, true_or, or_true, false_or, or_false, ite_true, ite_false, eq_self]; done) | (simp only [j_swap, j_swap1, j_swap2, c1, c9, c20, c41, c50, c54, c63, c104, c112, Int32.not_lt.mp c1, Int32.not_le.mp c9, Int32.not_le.mpr c20, Int32.not_lt.mp c41, Int32.not_le.mp c50, Int32.not_lt.mp c54, Int32.not_le.mpr c63, if_true, if_false, not_true_eq_false, not_false_eq_true, true_and, and_true, false_and, and_false, true_or, or_true, false_or, or_false, ite_true, ite_false, eq_self]; done) | (simp only [j_swap, j_swap1, j_swap2, c1, c9, c20, c41, c50, c54, c63, c104, Int32.not_lt.mp c1, Int32.not_le.mp c9, Int32.not_le.mpr c20, Int32.not_lt.mp c41, Int32.not_le.mp c50, Int32.not_lt.mp c54, Int32.not_le.mpr c63, if_true, if_false, not_true_eq_false, not_false_eq_true, true_and, and_true, false_and, and_false, true_or, or_true, false_or, or_false, ite_true, ite_false, eq_self]; rw [if_pos c112]; done))) ▸ hP
                    have hD9 : va_D A (nW cI a (j_swap N x1)) := (show up (up (up (up N 5 x1.toNatClampNeg (N 5 (x1 + 1).toNatClampNeg)) 5 (x1 + 1).toNatClampNeg (N 5 x1.toNatClampNeg)) 4 (N 5 (x1 + 1).toNatClampNeg).toNatClampNeg x1) 4 (N 5 x1.toNatClampNeg).toNatClampNeg (x1 + 1) = j_swap N x1 from by (first | (simp only [j_swap, j_swap1, j_swap2, c1, c9, c20, c41, c50, c54, c63, c104, if_pos c112, Int32.not_lt.mp c1, Int32.not_le.mp c9, Int32.not_le.mpr c20, Int32.not_lt.mp c41, Int32.not_le.mp c50, Int32.not_lt.mp c54, Int32.not_le.mpr c63, if_true, if_false, not_true_eq_false, not_false_eq_true, true_and, and_true, false_and, and_false, true_or, or_true, false_or, or_false, ite_true, ite_false, eq_self]; done) | (simp only [j_swap, j_swap1, j_swap2, c1, c9, c20, c41, c50, c54, c63, c104, c112, Int32.not_lt.mp c1, Int32.not_le.mp c9, Int32.not_le.mpr c20, Int32.not_lt.mp c41, Int32.not_le.mp c50, Int32.not_lt.mp c54, Int32.not_le.mpr c63, if_true, if_false, not_true_eq_false, not_false_eq_true, true_and, and_true, false_and, and_false, true_or, or_true, false_or, or_false, ite_true, ite_false, eq_self]; done) | (simp only [j_swap, j_swap1, j_swap2, c1, c9, c20, c41, c50, c54, c63, c104, Int32.not_lt.mp c1, Int32.not_le.mp c9, Int32.not_le.mpr c20, Int32.not_lt.mp c41, Int32.not_le.mp c50, Int32.not_lt.mp c54, Int32.not_le.mpr c63, if_true, if_false, not_true_eq_false, not_false_eq_true, true_and, and_true, false_and, and_false, true_or, or_true, false_or, or_false, ite_true, ite_false, eq_self]; rw [if_pos c112]; done))) ▸ hD
                    refine W.widen (k := mcW N (j_swap N x1)) (n := msW N (j_swap N x1)) (Nat.zero_le _) (Nat.zero_le _) ?_
                    exact W.vret hx hb hr (fun t ht hW => ⟨⟨a, rfl, rfl, by rw [ht]; exact hP9, va_K.moved hW.alike hK, hD9⟩, hS.F ht⟩) hS.2.2 d_N_swap_115
              · have hP9 : va_P (dC, dI) cls0 (nW cI a (j_swap N x1)) _ := (show N = j_swap N x1 from by simp only [j_swap, j_swap1, j_swap2, c1, c9, c20, c41, c50, c54, c63, Int32.not_lt.mp c1, Int32.not_le.mp c9, Int32.not_le.mpr c20, Int32.not_lt.mp c41, Int32.not_le.mp c50, Int32.not_lt.mp c54, Int32.not_lt.mp c63, if_true, if_false, not_true_eq_false, not_false_eq_true, true_and, and_true, false_and, and_false, true_or, or_true, false_or, or_false, ite_true, ite_false, eq_self]) ▸ hP
                have hD9 : va_D A (nW cI a (j_swap N x1)) := (show N = j_swap N x1 from by simp only [j_swap, j_swap1, j_swap2, c1, c9, c20, c41, c50, c54, c63, Int32.not_lt.mp c1, Int32.not_le.mp c9, Int32.not_le.mpr c20, Int32.not_lt.mp c41, Int32.not_le.mp c50, Int32.not_lt.mp c54, Int32.not_lt.mp c63, if_true, if_false, not_true_eq_false, not_false_eq_true, true_and, and_true, false_and, and_false, true_or, or_true, false_or, or_false, ite_true, ite_false, eq_self]) ▸ hD
                refine W.widen (k := mcW N (j_swap N x1)) (n := msW N (j_swap N x1)) (Nat.zero_le _) (Nat.zero_le _) ?_
                exact W.vret hx hb hr (fun t ht hW => ⟨⟨a, rfl, rfl, by rw [ht]; exact hP9, va_K.moved hW.alike hK, hD9⟩, hS.F ht⟩) hS.2.2 d_N_swap_66
      · have hP9 : va_P (dC, dI) cls0 (nW cI a (j_swap N x1)) _ := (show N = j_swap N x1 from by simp only [j_swap, j_swap1, j_swap2, c1, c9, c20, Int32.not_lt.mp c1, Int32.not_le.mp c9, Int32.not_lt.mp c20, if_true, if_false, not_true_eq_false, not_false_eq_true, true_and, and_true, false_and, and_false, true_or, or_true, false_or, or_false, ite_true, ite_false, eq_self]) ▸ hP
        have hD9 : va_D A (nW cI a (j_swap N x1)) := (show N = j_swap N x1 from by simp only [j_swap, j_swap1, j_swap2, c1, c9, c20, Int32.not_lt.mp c1, Int32.not_le.mp c9, Int32.not_lt.mp c20, if_true, if_false, not_true_eq_false, not_false_eq_true, true_and, and_true, false_and, and_false, true_or, or_true, false_or, or_false, ite_true, ite_false, eq_self]) ▸ hD
        refine W.widen (k := mcW N (j_swap N x1)) (n := msW N (j_swap N x1)) (Nat.zero_le _) (Nat.zero_le _) ?_
        exact W.vret hx hb hr (fun t ht hW => ⟨⟨a, rfl, rfl, by rw [ht]; exact hP9, va_K.moved hW.alike hK, hD9⟩, hS.F ht⟩) hS.2.2 d_N_swap_23
end
section
/-! THE MEMO's world -/
abbrev mW (cI : ClassId) (b : Nat → Nat) (E : Mm) : va_W := [(b 0, .inr (3, [.ref (b 1), .int (E 1 0)])), (b 1, .inl (cI, 5120, .inl (E 0)))]
def mR (dC : Nat → ClassId) (dI : Nat → Nat → Nat) (cI : ClassId) (b : Nat → Nat) (E : Mm) (U : State) : Prop := va_P (dC, dI) cls0 (mW cI b E) U.heap ∧ va_K (dC, dI) cls0 [(cI, .int)] U
theorem mR_call {dC : Nat → ClassId} {dI : Nat → Nat → Nat} {cI : ClassId} {b : Nat → Nat} {E : Mm} (av : List Value) : FrameBlind (va_Pc av (mR dC dI cI b E)) := fun a U g mk q => by
  obtain ⟨q0, qP, qK⟩ := q
  exact ⟨q0, qP, va_K.moved (u := U) (U := U.calling g mk a) (Vm.Alike.refl U.vm) qK⟩
def mM (dC : Nat → ClassId) (dI : Nat → Nat → Nat) (cI : ClassId) (b : Nat → Nat) (E : Mm) (sz : Nat) (U : State) : Prop := U.heap.size = sz ∧ va_P (dC, dI) cls0 (mW cI b E) U.heap ∧ va_K (dC, dI) cls0 [(cI, .int)] U ∧ va_D (fun _ => True) (mW cI b E)
theorem mM_call {dC : Nat → ClassId} {dI : Nat → Nat → Nat} {cI : ClassId} {b : Nat → Nat} {E : Mm} {sz : Nat} (av : List Value) : FrameBlind (va_Pc av (mM dC dI cI b E sz)) := fun a U g mk q => by
  obtain ⟨q0, q1, qP, qK, qD⟩ := q
  exact ⟨q0, q1, qP, va_K.moved (u := U) (U := U.calling g mk a) (Vm.Alike.refl U.vm) qK, qD⟩
def mE (dC : Nat → ClassId) (dI : Nat → Nat → Nat) (cI : ClassId) (b : Nat → Nat) (E : Mm) (A : Nat → Prop) (t : State) : Prop := va_P (dC, dI) cls0 (mW cI b E) t.heap ∧ va_K (dC, dI) cls0 [(cI, .int)] t ∧ va_D A (mW cI b E)
theorem place_in0 (a b c : Int32) : vp_in (j_place a b c) 5120 := by
  obtain ⟨q, q1, e⟩ := place_e a b c
  rw [e]
  exact vp_in_nI (by omega) (by decide)
theorem place_in1 (a b c : Int32) : vp_in ((j_place a b c + 1)) 5120 := by
  obtain ⟨q, q1, e⟩ := place_e a b c
  rw [e]
  rw [show nI (5 * q) + 1 = nI (5 * q + 1) from nI_add _ _]
  exact vp_in_nI (by omega) (by decide)
theorem place_in2 (a b c : Int32) : vp_in ((j_place a b c + 2)) 5120 := by
  obtain ⟨q, q1, e⟩ := place_e a b c
  rw [e]
  rw [show nI (5 * q) + 2 = nI (5 * q + 2) from nI_add _ _]
  exact vp_in_nI (by omega) (by decide)
theorem place_in3 (a b c : Int32) : vp_in ((j_place a b c + 3)) 5120 := by
  obtain ⟨q, q1, e⟩ := place_e a b c
  rw [e]
  rw [show nI (5 * q) + 3 = nI (5 * q + 3) from nI_add _ _]
  exact vp_in_nI (by omega) (by decide)
theorem place_in4 (a b c : Int32) : vp_in ((j_place a b c + 4)) 5120 := by
  obtain ⟨q, q1, e⟩ := place_e a b c
  rw [e]
  rw [show nI (5 * q) + 4 = nI (5 * q + 4) from nI_add _ _]
  exact vp_in_nI (by omega) (by decide)
theorem ue_1 (E : Mm) (j : Nat) (x : Int32) : up E 0 j x 1 = E 1 := rfl
section MST
variable {p : Program} {l : Launch} {e : Env} {R : Room} {s : State} {m : MethodId} {args : Array Value} {below : List Frame} {meth : Method} {c : Code} {H H0 : Heap} {locs : List Loc} {cells slots : Nat} {Q : State → Prop} {cc : ByteArray} {pc index : Nat} {ls : Array Slot} {rest : List Value} {A : Nat → Prop} {dC : Nat → ClassId} {dI : Nat → Nat → Nat} {cI : ClassId} {b : Nat → Nat} {E : Mm} {x i : Int32}
theorem mAst (hx : p.tables.exec = Jvm.exec) (hb : c.code = cc) (hK : va_K (dC, dI) cls0 [(cI, .int)] s) (hP : va_P (dC, dI) cls0 (mW cI b E) H) (hD : va_D A (mW cI b E)) (hS : va_S A H0 H locs) (hin : vp_in i 5120) (hdg : decode cc pc = .ok (.iastore, 1))
    (kk : ∀ (H1 : Heap) (locs1 : List Loc), va_P (dC, dI) cls0 (mW cI b (up E 0 i.toNatClampNeg x)) H1 → va_D A (mW cI b (up E 0 i.toNatClampNeg x)) → va_S A H0 H1 locs1 → W p l e R s m args below meth c H1 locs1 cells slots Q (F0 m (pc + 1) ls rest)) : W p l e R s m args below meth c H locs cells slots Q (F0 m pc ls (.int x :: .int i :: .ref (b 1) :: rest)) :=
  va_iast hx hb hK hP hD hS 1 0 rfl rfl hin hdg (fun H1 locs1 h1 h2 h3 => kk H1 locs1 h1 h2 h3)
theorem mPut (hx : p.tables.exec = Jvm.exec) (hb : c.code = cc) (hts : ∀ w ∈ W0, w.before args s = true) (hown : s.vm.findClass R_M = some m.cls) (hK : va_K (dC, dI) cls0 [(cI, .int)] s) (hP : va_P (dC, dI) cls0 (mW cI b E) H) (hD : va_D A (mW cI b E)) (hS : va_S A H0 H locs) (hk : Cond.fieldLink R_M index "DiagramStore$Memo" "age" "I" ∈ W0) (hdg : decode cc pc = .ok (.putfield index, 3))
    (kk : ∀ (H1 : Heap) (locs1 : List Loc), va_P (dC, dI) cls0 (mW cI b (up E 1 0 x)) H1 → va_D A (mW cI b (up E 1 0 x)) → va_S A H0 H1 locs1 → W p l e R s m args below meth c H1 locs1 cells slots Q (F0 m (pc + 3) ls rest)) : W p l e R s m args below meth c H locs cells slots Q (F0 m pc ls (.int x :: .ref (b 0) :: rest)) :=
  va_put (D := (dC, dI)) (ci := 3) (v := .int x) (ty := .int) (C := R_M) (T := T_M) (N := 2) hx hb hts in_M ty_M tk_M nm_M hown hK hP hD hS 0 rfl rfl 1 (by decide) (hts _ hk) (fun _ h9 => h9) rfl (by decide +kernel) rfl rfl (Nat.le_of_ble_eq_true rfl) hdg (fun H1 locs1 h1 h2 h3 => kk H1 locs1 h1 h2 h3)
end MST
end
section
set_option maxHeartbeats 4000000 in
set_option maxRecDepth 100000 in
/-- M_placeFor -/
theorem c_M_placeFor (l : Launch) (x1 x2 x3 : Int32) : Met l y_M_placeFor (.code y_M_placeFor b_M_placeFor 4 (some .int) :: W0) ({ frames := 0, cells := 0, slots := 0, locals := 0 } : Room) (va_Pc [.int x1, .int x2, .int x3] (fun _ => True)) (QcRead (j_place x1 x2 x3)) 0 0 (fun _ => False) := by
  refine Met.ofW (cc := b_M_placeFor) (maxL := 4) (ret := (some .int)) (by decide) rfl ?_
  intro p e s m args below meth c s₁ B hml hv
  obtain ⟨rfl, -⟩ := hv
  have hx := B.exec
  have hb := B.bytes
  have hr := B.returns
  have hts1 := atoms_spec (ws := .code y_M_placeFor b_M_placeFor 4 (some .int) :: W0) B.pre
  have hts : ∀ w ∈ W0, w.before _ s = true := fun w h => hts1 w (List.mem_cons_of_mem _ h)
  have hown : s.vm.findClass R_M = some m.cls := findClass_of_methodNamed B.named
  have hlocks := B.notSynchronized
  have hl := lv_entry ([.int x1, .int x2, .int x3]) (n := 4) (Nat.le_of_ble_eq_true rfl)
  rw [lg_entry_eq]
  generalize (lg_sl ([.int x1, .int x2, .int x3]) ++ List.replicate (4 - (lg_sl ([.int x1, .int x2, .int x3])).length) Slot.unset).toArray = ls at hl ⊢
  have hl : lv_has ls 4 [(0, .int x1), (1, .int x2), (2, .int x3)] := hl
  refine lv_iload_n hx hb d_M_placeFor_0 rfl (lv_at hl 0 rfl) ?_
  refine lv_ldc (v := -1640531535) hx hb hown (hts _ kco_M_19) d_M_placeFor_1 ?_
  refine lv_imul hx hb d_M_placeFor_3 ?_
  refine lv_iload_n hx hb d_M_placeFor_4 rfl (lv_at hl 1 rfl) ?_
  refine lv_ldc (v := -2048144789) hx hb hown (hts _ kco_M_20) d_M_placeFor_5 ?_
  refine lv_imul hx hb d_M_placeFor_7 ?_
  refine lv_iadd hx hb d_M_placeFor_8 ?_
  refine lv_iload_n hx hb d_M_placeFor_9 rfl (lv_at hl 2 rfl) ?_
  refine lv_ldc (v := -1028477387) hx hb hown (hts _ kco_M_21) d_M_placeFor_10 ?_
  refine lv_imul hx hb d_M_placeFor_12 ?_
  refine lv_iadd hx hb d_M_placeFor_13 ?_
  refine lv_istore_n (lv' := [(3, .int (((x1 * (-1640531535)) + (x2 * (-2048144789))) + (x3 * (-1028477387)))), (0, .int x1), (1, .int x2), (2, .int x3)]) hx hb d_M_placeFor_14 rfl hl (by decide) rfl (fun ls hl => ?_)
  refine lv_iload_n hx hb d_M_placeFor_15 rfl (lv_at hl 0 rfl) ?_
  refine lv_bipush (v := 20) hx hb d_M_placeFor_16 (by decide) ?_
  refine lv_iushr hx hb d_M_placeFor_18 rfl ?_
  refine lv_sipush (v := 1023) hx hb d_M_placeFor_19 (by decide) ?_
  refine lv_iand hx hb d_M_placeFor_22 ?_
  refine lv_iconst (v := 5) hx hb d_M_placeFor_23 (by decide) ?_
  refine lv_imul hx hb d_M_placeFor_24 ?_
  exact W.iret (v := (((((((x1 * (-1640531535)) + (x2 * (-2048144789))) + (x3 * (-1028477387))).toUInt32 >>> ((20 : Int32).toUInt32 &&& Int32.toUInt32 31)).toInt32) &&& 1023) * 5)) hx hb hr (fun t ht hW => ⟨by rw [show j_place x1 x2 x3 = (((((((x1 * (-1640531535)) + (x2 * (-2048144789))) + (x3 * (-1028477387))).toUInt32 >>> ((20 : Int32).toUInt32 &&& Int32.toUInt32 31)).toInt32) &&& 1023) * 5) from by rfl], ht⟩) (fun q h => by cases h) d_M_placeFor_25

set_option maxHeartbeats 4000000 in
set_option maxRecDepth 100000 in
/-- M_forget -/
theorem c_M_forget (l : Launch) (dC : Nat → ClassId) (dI : Nat → Nat → Nat) (cI : ClassId) (b : Nat → Nat) (E : Mm) (sz : Nat) : Met l y_M_forget (.code y_M_forget b_M_forget 1 none :: W0) ({ frames := 0, cells := 0, slots := 0, locals := 0 } : Room) (va_Pc [.ref (b 0)] (mM dC dI cI b E sz)) (va_Qv (fun _ : Unit => True) (fun _ t => mE dC dI cI b (j_forget E) (va_A (mW cI b E) sz) t) (va_A (mW cI b E) sz)) 0 0 (va_A (mW cI b E) sz) := by
  refine Met.ofW (cc := b_M_forget) (maxL := 1) (ret := none) (by decide) rfl ?_
  intro p e s m args below meth c s₁ B hml hv
  obtain ⟨rfl, hsz, hP, hK, hD0⟩ := hv
  have hx := B.exec
  have hb := B.bytes
  have hr := B.returns
  have hts1 := atoms_spec (ws := .code y_M_forget b_M_forget 1 none :: W0) B.pre
  have hts : ∀ w ∈ W0, w.before _ s = true := fun w h => hts1 w (List.mem_cons_of_mem _ h)
  have hown : s.vm.findClass R_M = some m.cls := findClass_of_methodNamed B.named
  have hlocks := B.notSynchronized
  subst hsz
  have hD := hD0.self (sz := s.heap.size)
  generalize hAe : va_A (mW cI b E) s.heap.size = A at hD ⊢
  have hA : ∀ q : Nat, s.heap.size ≤ q → A q := fun q h => by rw [← hAe]; exact Or.inr h
  have hS : va_S A s.heap s.heap [] := va_S.rf
  have hP : va_P (dC, dI) cls0 (mW cI b E) s.heap := hP
  have hl := lv_entry ([.ref (b 0)]) (n := 1) (Nat.le_of_ble_eq_true rfl)
  rw [lg_entry_eq]
  generalize (lg_sl ([.ref (b 0)]) ++ List.replicate (1 - (lg_sl ([.ref (b 0)])).length) Slot.unset).toArray = ls at hl ⊢
  have hl : lv_has ls 1 [(0, .ref (b 0))] := hl
  refine lv_aload_n hx hb d_M_forget_0 rfl (lv_at hl 0 rfl) ?_
  refine lv_dup hx hb d_M_forget_1 rfl ?_
  refine va_get (D := (dC, dI)) (ci := 3) (v := .int (E 1 0)) (C := R_M) (T := T_M) (N := 2) hx hb hts in_M hown hK hP 0 rfl rfl 1 (by decide) (hts _ kfl_M_15) (fun _ h9 => h9) rfl d_M_forget_2 ?_
  refine lv_iconst (v := 1) hx hb d_M_forget_5 (by decide) ?_
  refine lv_iadd hx hb d_M_forget_6 ?_
  refine mPut hx hb hts hown hK hP hD hS kfl_M_15 d_M_forget_7 (fun H locs hP hD hS => ?_)
  have hP9 : va_P (dC, dI) cls0 (mW cI b (j_forget E)) _ := (show up E 1 0 ((E 1 0) + 1) = j_forget E from by rfl) ▸ hP
  have hD9 : va_D A (mW cI b (j_forget E)) := (show up E 1 0 ((E 1 0) + 1) = j_forget E from by rfl) ▸ hD
  exact W.vret hx hb hr (fun t ht hW => ⟨⟨(), rfl, trivial, by rw [ht]; exact hP9, va_K.moved hW.alike hK, hD9⟩, hS.F ht⟩) hS.2.2 d_M_forget_10

set_option maxHeartbeats 4000000 in
set_option maxRecDepth 100000 in
/-- M_answerFor -/
theorem c_M_answerFor (l : Launch) (dC : Nat → ClassId) (dI : Nat → Nat → Nat) (cI : ClassId) (b : Nat → Nat) (E : Mm) (x1 x2 x3 : Int32) : Met l y_M_answerFor (.code y_M_answerFor b_M_answerFor 6 (some .int) :: W0) ({ frames := 1, cells := 0, slots := 0, locals := 23 } : Room) (va_Pc [.ref (b 0), .int x1, .int x2, .int x3] (mR dC dI cI b E)) (QcRead (j_answerFor E x1 x2 x3)) 0 0 (fun _ => False) := by
  refine Met.ofW (cc := b_M_answerFor) (maxL := 6) (ret := (some .int)) (by decide) rfl ?_
  intro p e s m args below meth c s₁ B hml hv
  obtain ⟨rfl, hP, hK⟩ := hv
  have hx := B.exec
  have hb := B.bytes
  have hr := B.returns
  have hts1 := atoms_spec (ws := .code y_M_answerFor b_M_answerFor 6 (some .int) :: W0) B.pre
  have hts : ∀ w ∈ W0, w.before _ s = true := fun w h => hts1 w (List.mem_cons_of_mem _ h)
  have hown : s.vm.findClass R_M = some m.cls := findClass_of_methodNamed B.named
  have hlocks := B.notSynchronized
  have hl := lv_entry ([.ref (b 0), .int x1, .int x2, .int x3]) (n := 6) (Nat.le_of_ble_eq_true rfl)
  rw [lg_entry_eq]
  generalize (lg_sl ([.ref (b 0), .int x1, .int x2, .int x3]) ++ List.replicate (6 - (lg_sl ([.ref (b 0), .int x1, .int x2, .int x3])).length) Slot.unset).toArray = ls at hl ⊢
  have hl : lv_has ls 6 [(0, .ref (b 0)), (1, .int x1), (2, .int x2), (3, .int x3)] := hl
  refine lv_iload_n hx hb d_M_answerFor_0 rfl (lv_at hl 1 rfl) ?_
  refine lv_iload_n hx hb d_M_answerFor_1 rfl (lv_at hl 2 rfl) ?_
  refine lv_iload_n hx hb d_M_answerFor_2 rfl (lv_at hl 3 rfl) ?_
  refine nCallS (As := [.int x1, .int x2, .int x3]) (rest := []) ⟨hx, hb, hml, hown, hts⟩ (c_M_placeFor l x1 x2 x3) (va_cwS 3 hts (gS kml_M_22 kst_M_placeFor kin_M kcd_M_placeFor) rfl rfl rfl (by decide +kernel) ⟨Nat.le_of_ble_eq_true rfl, Nat.le_of_ble_eq_true rfl⟩) rfl hl.1 rfl (Nat.le_of_ble_eq_true rfl) d_M_answerFor_3 ⟨Nat.zero_le _, Nat.zero_le _⟩ ?_
  refine lv_istore (lv' := [(4, .int (j_place x1 x2 x3)), (0, .ref (b 0)), (1, .int x1), (2, .int x2), (3, .int x3)]) hx hb d_M_answerFor_6 hl (by decide) rfl (fun ls hl => ?_)
  refine lv_iload hx hb d_M_answerFor_8 (lv_at hl 0 rfl) ?_
  refine lv_if_lt (tgt := 41) hx hb d_M_answerFor_10 (by decide) (fun c10 => ?_) (fun c10 => ?_)
  · refine lv_iconst (v := -1) hx hb d_M_answerFor_41 (by decide) ?_
    exact W.iret (v := (-1)) hx hb hr (fun t ht hW => ⟨by rw [show j_answerFor E x1 x2 x3 = (-1) from by simp only [j_answerFor, c10, Int32.not_le.mpr c10, if_true, if_false, not_true_eq_false, not_false_eq_true, true_and, and_true, false_and, and_false, true_or, or_true, false_or, or_false, ite_true, ite_false, eq_self]], ht⟩) (fun q h => by cases h) d_M_answerFor_42
  · refine lv_iload hx hb d_M_answerFor_13 (lv_at hl 0 rfl) ?_
    refine lv_iconst (v := 5) hx hb d_M_answerFor_15 (by decide) ?_
    refine lv_iadd hx hb d_M_answerFor_16 ?_
    refine lv_aload_n hx hb d_M_answerFor_17 rfl (lv_at hl 1 rfl) ?_
    refine va_get (D := (dC, dI)) (ci := 3) (v := .ref (b 1)) (C := R_M) (T := T_M) (N := 2) hx hb hts in_M hown hK hP 0 rfl rfl 0 (by decide) (hts _ kfl_M_11) (fun _ h9 => h9) rfl d_M_answerFor_18 ?_
    refine va_alen (v := nI 5120) hx hb hK hP 1 0 rfl rfl rfl d_M_answerFor_21 ?_
    refine lv_icmp_gt (tgt := 41) hx hb d_M_answerFor_22 (by decide) (fun c22 => ?_) (fun c22 => ?_)
    · refine lv_iconst (v := -1) hx hb d_M_answerFor_41 (by decide) ?_
      exact W.iret (v := (-1)) hx hb hr (fun t ht hW => ⟨by rw [show j_answerFor E x1 x2 x3 = (-1) from by simp only [j_answerFor, c10, c22, Int32.not_lt.mp c10, Int32.not_le.mpr c22, if_true, if_false, not_true_eq_false, not_false_eq_true, true_and, and_true, false_and, and_false, true_or, or_true, false_or, or_false, ite_true, ite_false, eq_self]], ht⟩) (fun q h => by cases h) d_M_answerFor_42
    · refine lv_aload_n hx hb d_M_answerFor_25 rfl (lv_at hl 1 rfl) ?_
      refine va_get (D := (dC, dI)) (ci := 3) (v := .ref (b 1)) (C := R_M) (T := T_M) (N := 2) hx hb hts in_M hown hK hP 0 rfl rfl 0 (by decide) (hts _ kfl_M_11) (fun _ h9 => h9) rfl d_M_answerFor_26 ?_
      refine lv_iload hx hb d_M_answerFor_29 (lv_at hl 0 rfl) ?_
      refine lv_iconst (v := 3) hx hb d_M_answerFor_31 (by decide) ?_
      refine lv_iadd hx hb d_M_answerFor_32 ?_
      refine va_iald hx hb hK hP 1 0 rfl rfl (place_in3 x1 x2 x3) d_M_answerFor_33 ?_
      refine lv_aload_n hx hb d_M_answerFor_34 rfl (lv_at hl 1 rfl) ?_
      refine va_get (D := (dC, dI)) (ci := 3) (v := .int (E 1 0)) (C := R_M) (T := T_M) (N := 2) hx hb hts in_M hown hK hP 0 rfl rfl 1 (by decide) (hts _ kfl_M_15) (fun _ h9 => h9) rfl d_M_answerFor_35 ?_
      refine lv_icmp_eq (tgt := 43) hx hb d_M_answerFor_38 (by decide) (fun c38 => ?_) (fun c38 => ?_)
      · refine lv_aload_n hx hb d_M_answerFor_43 rfl (lv_at hl 1 rfl) ?_
        refine va_get (D := (dC, dI)) (ci := 3) (v := .ref (b 1)) (C := R_M) (T := T_M) (N := 2) hx hb hts in_M hown hK hP 0 rfl rfl 0 (by decide) (hts _ kfl_M_11) (fun _ h9 => h9) rfl d_M_answerFor_44 ?_
        refine lv_iload hx hb d_M_answerFor_47 (lv_at hl 0 rfl) ?_
        refine va_iald hx hb hK hP 1 0 rfl rfl (place_in0 x1 x2 x3) d_M_answerFor_49 ?_
        refine lv_iload_n hx hb d_M_answerFor_50 rfl (lv_at hl 2 rfl) ?_
        refine lv_icmp_ne (tgt := 84) hx hb d_M_answerFor_51 (by decide) (fun c51 => ?_) (fun c51 => ?_)
        · refine lv_iconst (v := 0) hx hb d_M_answerFor_84 (by decide) ?_
          refine lv_istore (lv' := [(5, .int 0), (4, .int (j_place x1 x2 x3)), (0, .ref (b 0)), (1, .int x1), (2, .int x2), (3, .int x3)]) hx hb d_M_answerFor_85 hl (by decide) rfl (fun ls hl => ?_)
          refine lv_iload hx hb d_M_answerFor_87 (lv_at hl 0 rfl) ?_
          refine lv_if_eq (tgt := 104) hx hb d_M_answerFor_89 (by decide) (fun c89 => ?_) (fun c89 => ?_)
          · refine lv_iconst (v := -1) hx hb d_M_answerFor_104 (by decide) ?_
            exact W.iret (v := (-1)) hx hb hr (fun t ht hW => ⟨by rw [show j_answerFor E x1 x2 x3 = (-1) from by (first | (simp only [j_answerFor, c10, c22, if_pos c38, c51, Int32.not_lt.mp c10, Int32.not_lt.mp c22, if_true, if_false, not_true_eq_false, not_false_eq_true, true_and, and_true, false_and, and_false, true_or, or_true, false_or, or_false, ite_true, ite_false, eq_self]; done) | (simp only [j_answerFor, c10, c22, c38, c51, Int32.not_lt.mp c10, Int32.not_lt.mp c22, if_true, if_false, not_true_eq_false, not_false_eq_true, true_and, and_true, false_and, and_false, true_or, or_true, false_or, or_false, ite_true, ite_false, eq_self]; done) | (simp only [j_answerFor, c10, c22, c51, Int32.not_lt.mp c10, Int32.not_lt.mp c22, if_true, if_false, not_true_eq_false, not_false_eq_true, true_and, and_true, false_and, and_false, true_or, or_true, false_or, or_false, ite_true, ite_false, eq_self]; rw [if_pos c38]; done))], ht⟩) (fun q h => by cases h) d_M_answerFor_105
          · exact absurd (by decide) c89
        · refine lv_aload_n hx hb d_M_answerFor_54 rfl (lv_at hl 1 rfl) ?_
          refine va_get (D := (dC, dI)) (ci := 3) (v := .ref (b 1)) (C := R_M) (T := T_M) (N := 2) hx hb hts in_M hown hK hP 0 rfl rfl 0 (by decide) (hts _ kfl_M_11) (fun _ h9 => h9) rfl d_M_answerFor_55 ?_
          refine lv_iload hx hb d_M_answerFor_58 (lv_at hl 0 rfl) ?_
          refine lv_iconst (v := 1) hx hb d_M_answerFor_60 (by decide) ?_
          refine lv_iadd hx hb d_M_answerFor_61 ?_
          refine va_iald hx hb hK hP 1 0 rfl rfl (place_in1 x1 x2 x3) d_M_answerFor_62 ?_
          refine lv_iload_n hx hb d_M_answerFor_63 rfl (lv_at hl 3 rfl) ?_
          refine lv_icmp_ne (tgt := 84) hx hb d_M_answerFor_64 (by decide) (fun c64 => ?_) (fun c64 => ?_)
          · refine lv_iconst (v := 0) hx hb d_M_answerFor_84 (by decide) ?_
            refine lv_istore (lv' := [(5, .int 0), (4, .int (j_place x1 x2 x3)), (0, .ref (b 0)), (1, .int x1), (2, .int x2), (3, .int x3)]) hx hb d_M_answerFor_85 hl (by decide) rfl (fun ls hl => ?_)
            refine lv_iload hx hb d_M_answerFor_87 (lv_at hl 0 rfl) ?_
            refine lv_if_eq (tgt := 104) hx hb d_M_answerFor_89 (by decide) (fun c89 => ?_) (fun c89 => ?_)
            · refine lv_iconst (v := -1) hx hb d_M_answerFor_104 (by decide) ?_
              exact W.iret (v := (-1)) hx hb hr (fun t ht hW => ⟨by rw [show j_answerFor E x1 x2 x3 = (-1) from by (first | (simp only [j_answerFor, c10, c22, if_pos c38, if_pos c51, c64, Int32.not_lt.mp c10, Int32.not_lt.mp c22, if_true, if_false, not_true_eq_false, not_false_eq_true, true_and, and_true, false_and, and_false, true_or, or_true, false_or, or_false, ite_true, ite_false, eq_self]; done) | (simp only [j_answerFor, c10, c22, c38, c51, c64, Int32.not_lt.mp c10, Int32.not_lt.mp c22, if_true, if_false, not_true_eq_false, not_false_eq_true, true_and, and_true, false_and, and_false, true_or, or_true, false_or, or_false, ite_true, ite_false, eq_self]; done) | (simp only [j_answerFor, c10, c22, c64, Int32.not_lt.mp c10, Int32.not_lt.mp c22, if_true, if_false, not_true_eq_false, not_false_eq_true, true_and, and_true, false_and, and_false, true_or, or_true, false_or, or_false, ite_true, ite_false, eq_self]; rw [if_pos c38, if_pos c51]; done))], ht⟩) (fun q h => by cases h) d_M_answerFor_105
            · exact absurd (by decide) c89
          · refine lv_aload_n hx hb d_M_answerFor_67 rfl (lv_at hl 1 rfl) ?_
            refine va_get (D := (dC, dI)) (ci := 3) (v := .ref (b 1)) (C := R_M) (T := T_M) (N := 2) hx hb hts in_M hown hK hP 0 rfl rfl 0 (by decide) (hts _ kfl_M_11) (fun _ h9 => h9) rfl d_M_answerFor_68 ?_
            refine lv_iload hx hb d_M_answerFor_71 (lv_at hl 0 rfl) ?_
            refine lv_iconst (v := 2) hx hb d_M_answerFor_73 (by decide) ?_
            refine lv_iadd hx hb d_M_answerFor_74 ?_
            refine va_iald hx hb hK hP 1 0 rfl rfl (place_in2 x1 x2 x3) d_M_answerFor_75 ?_
            refine lv_iload_n hx hb d_M_answerFor_76 rfl (lv_at hl 4 rfl) ?_
            refine lv_icmp_ne (tgt := 84) hx hb d_M_answerFor_77 (by decide) (fun c77 => ?_) (fun c77 => ?_)
            · refine lv_iconst (v := 0) hx hb d_M_answerFor_84 (by decide) ?_
              refine lv_istore (lv' := [(5, .int 0), (4, .int (j_place x1 x2 x3)), (0, .ref (b 0)), (1, .int x1), (2, .int x2), (3, .int x3)]) hx hb d_M_answerFor_85 hl (by decide) rfl (fun ls hl => ?_)
              refine lv_iload hx hb d_M_answerFor_87 (lv_at hl 0 rfl) ?_
              refine lv_if_eq (tgt := 104) hx hb d_M_answerFor_89 (by decide) (fun c89 => ?_) (fun c89 => ?_)
              · refine lv_iconst (v := -1) hx hb d_M_answerFor_104 (by decide) ?_
                exact W.iret (v := (-1)) hx hb hr (fun t ht hW => ⟨by rw [show j_answerFor E x1 x2 x3 = (-1) from by (first | (simp only [j_answerFor, c10, c22, if_pos c38, if_pos c51, if_pos c64, c77, Int32.not_lt.mp c10, Int32.not_lt.mp c22, if_true, if_false, not_true_eq_false, not_false_eq_true, true_and, and_true, false_and, and_false, true_or, or_true, false_or, or_false, ite_true, ite_false, eq_self]; done) | (simp only [j_answerFor, c10, c22, c38, c51, c64, c77, Int32.not_lt.mp c10, Int32.not_lt.mp c22, if_true, if_false, not_true_eq_false, not_false_eq_true, true_and, and_true, false_and, and_false, true_or, or_true, false_or, or_false, ite_true, ite_false, eq_self]; done) | (simp only [j_answerFor, c10, c22, c77, Int32.not_lt.mp c10, Int32.not_lt.mp c22, if_true, if_false, not_true_eq_false, not_false_eq_true, true_and, and_true, false_and, and_false, true_or, or_true, false_or, or_false, ite_true, ite_false, eq_self]; rw [if_pos c38, if_pos c51, if_pos c64]; done))], ht⟩) (fun q h => by cases h) d_M_answerFor_105
              · exact absurd (by decide) c89
            · refine lv_iconst (v := 1) hx hb d_M_answerFor_80 (by decide) ?_
              refine lv_goto (tgt := 85) hx hb d_M_answerFor_81 (by decide) ?_
              refine lv_istore (lv' := [(5, .int 1), (4, .int (j_place x1 x2 x3)), (0, .ref (b 0)), (1, .int x1), (2, .int x2), (3, .int x3)]) hx hb d_M_answerFor_85 hl (by decide) rfl (fun ls hl => ?_)
              refine lv_iload hx hb d_M_answerFor_87 (lv_at hl 0 rfl) ?_
              refine lv_if_eq (tgt := 104) hx hb d_M_answerFor_89 (by decide) (fun c89 => ?_) (fun c89 => ?_)
              · exact absurd c89 (by decide)
              · refine lv_aload_n hx hb d_M_answerFor_92 rfl (lv_at hl 2 rfl) ?_
                refine va_get (D := (dC, dI)) (ci := 3) (v := .ref (b 1)) (C := R_M) (T := T_M) (N := 2) hx hb hts in_M hown hK hP 0 rfl rfl 0 (by decide) (hts _ kfl_M_11) (fun _ h9 => h9) rfl d_M_answerFor_93 ?_
                refine lv_iload hx hb d_M_answerFor_96 (lv_at hl 1 rfl) ?_
                refine lv_iconst (v := 4) hx hb d_M_answerFor_98 (by decide) ?_
                refine lv_iadd hx hb d_M_answerFor_99 ?_
                refine va_iald hx hb hK hP 1 0 rfl rfl (place_in4 x1 x2 x3) d_M_answerFor_100 ?_
                refine lv_goto (tgt := 105) hx hb d_M_answerFor_101 (by decide) ?_
                exact W.iret (v := (E 0 ((j_place x1 x2 x3) + 4).toNatClampNeg)) hx hb hr (fun t ht hW => ⟨by rw [show j_answerFor E x1 x2 x3 = E 0 ((j_place x1 x2 x3) + 4).toNatClampNeg from by (first | (simp only [j_answerFor, c10, c22, if_pos c38, if_pos c51, if_pos c64, if_pos c77, Int32.not_lt.mp c10, Int32.not_lt.mp c22, if_true, if_false, not_true_eq_false, not_false_eq_true, true_and, and_true, false_and, and_false, true_or, or_true, false_or, or_false, ite_true, ite_false, eq_self]; done) | (simp only [j_answerFor, c10, c22, c38, c51, c64, c77, Int32.not_lt.mp c10, Int32.not_lt.mp c22, if_true, if_false, not_true_eq_false, not_false_eq_true, true_and, and_true, false_and, and_false, true_or, or_true, false_or, or_false, ite_true, ite_false, eq_self]; done) | (simp only [j_answerFor, c10, c22, Int32.not_lt.mp c10, Int32.not_lt.mp c22, if_true, if_false, not_true_eq_false, not_false_eq_true, true_and, and_true, false_and, and_false, true_or, or_true, false_or, or_false, ite_true, ite_false, eq_self]; rw [if_pos c38, if_pos c51, if_pos c64, if_pos c77]; done))], ht⟩) (fun q h => by cases h) d_M_answerFor_105
      · refine lv_iconst (v := -1) hx hb d_M_answerFor_41 (by decide) ?_
        exact W.iret (v := (-1)) hx hb hr (fun t ht hW => ⟨by rw [show j_answerFor E x1 x2 x3 = (-1) from by simp only [j_answerFor, c10, c22, c38, Int32.not_lt.mp c10, Int32.not_lt.mp c22, if_true, if_false, not_true_eq_false, not_false_eq_true, true_and, and_true, false_and, and_false, true_or, or_true, false_or, or_false, ite_true, ite_false, eq_self]], ht⟩) (fun q h => by cases h) d_M_answerFor_42

set_option maxHeartbeats 4000000 in
set_option maxRecDepth 100000 in
/-- M_keep -/
theorem c_M_keep (l : Launch) (dC : Nat → ClassId) (dI : Nat → Nat → Nat) (cI : ClassId) (b : Nat → Nat) (E : Mm) (sz : Nat) (x1 x2 x3 x4 : Int32) : Met l y_M_keep (.code y_M_keep b_M_keep 6 none :: W0) ({ frames := 1, cells := 0, slots := 0, locals := 23 } : Room) (va_Pc [.ref (b 0), .int x1, .int x2, .int x3, .int x4] (mM dC dI cI b E sz)) (va_Qv (fun _ : Unit => True) (fun _ t => mE dC dI cI b (j_keep E x1 x2 x3 x4) (va_A (mW cI b E) sz) t) (va_A (mW cI b E) sz)) 0 0 (va_A (mW cI b E) sz) := by
  refine Met.ofW (cc := b_M_keep) (maxL := 6) (ret := none) (by decide) rfl ?_
  intro p e s m args below meth c s₁ B hml hv
  obtain ⟨rfl, hsz, hP, hK, hD0⟩ := hv
  have hx := B.exec
  have hb := B.bytes
  have hr := B.returns
  have hts1 := atoms_spec (ws := .code y_M_keep b_M_keep 6 none :: W0) B.pre
  have hts : ∀ w ∈ W0, w.before _ s = true := fun w h => hts1 w (List.mem_cons_of_mem _ h)
  have hown : s.vm.findClass R_M = some m.cls := findClass_of_methodNamed B.named
  have hlocks := B.notSynchronized
  subst hsz
  have hD := hD0.self (sz := s.heap.size)
  generalize hAe : va_A (mW cI b E) s.heap.size = A at hD ⊢
  have hA : ∀ q : Nat, s.heap.size ≤ q → A q := fun q h => by rw [← hAe]; exact Or.inr h
  have hS : va_S A s.heap s.heap [] := va_S.rf
  have hP : va_P (dC, dI) cls0 (mW cI b E) s.heap := hP
  have hl := lv_entry ([.ref (b 0), .int x1, .int x2, .int x3, .int x4]) (n := 6) (Nat.le_of_ble_eq_true rfl)
  rw [lg_entry_eq]
  generalize (lg_sl ([.ref (b 0), .int x1, .int x2, .int x3, .int x4]) ++ List.replicate (6 - (lg_sl ([.ref (b 0), .int x1, .int x2, .int x3, .int x4])).length) Slot.unset).toArray = ls at hl ⊢
  have hl : lv_has ls 6 [(0, .ref (b 0)), (1, .int x1), (2, .int x2), (3, .int x3), (4, .int x4)] := hl
  refine lv_iload_n hx hb d_M_keep_0 rfl (lv_at hl 1 rfl) ?_
  refine lv_iload_n hx hb d_M_keep_1 rfl (lv_at hl 2 rfl) ?_
  refine lv_iload_n hx hb d_M_keep_2 rfl (lv_at hl 3 rfl) ?_
  refine nCallS (As := [.int x1, .int x2, .int x3]) (rest := []) ⟨hx, hb, hml, hown, hts⟩ (c_M_placeFor l x1 x2 x3) (va_cwS 3 hts (gS kml_M_22 kst_M_placeFor kin_M kcd_M_placeFor) rfl rfl rfl (by decide +kernel) ⟨Nat.le_of_ble_eq_true rfl, Nat.le_of_ble_eq_true rfl⟩) rfl hl.1 rfl (Nat.le_of_ble_eq_true rfl) d_M_keep_3 ⟨Nat.zero_le _, Nat.zero_le _⟩ ?_
  refine lv_istore (lv' := [(5, .int (j_place x1 x2 x3)), (0, .ref (b 0)), (1, .int x1), (2, .int x2), (3, .int x3), (4, .int x4)]) hx hb d_M_keep_6 hl (by decide) rfl (fun ls hl => ?_)
  refine lv_iload hx hb d_M_keep_8 (lv_at hl 0 rfl) ?_
  refine lv_if_lt (tgt := 25) hx hb d_M_keep_10 (by decide) (fun c10 => ?_) (fun c10 => ?_)
  · have hP9 : va_P (dC, dI) cls0 (mW cI b (j_keep E x1 x2 x3 x4)) _ := (show E = j_keep E x1 x2 x3 x4 from by simp only [j_keep, ue_1, c10, Int32.not_le.mpr c10, if_true, if_false, not_true_eq_false, not_false_eq_true, true_and, and_true, false_and, and_false, true_or, or_true, false_or, or_false, ite_true, ite_false, eq_self]) ▸ hP
    have hD9 : va_D A (mW cI b (j_keep E x1 x2 x3 x4)) := (show E = j_keep E x1 x2 x3 x4 from by simp only [j_keep, ue_1, c10, Int32.not_le.mpr c10, if_true, if_false, not_true_eq_false, not_false_eq_true, true_and, and_true, false_and, and_false, true_or, or_true, false_or, or_false, ite_true, ite_false, eq_self]) ▸ hD
    exact W.vret hx hb hr (fun t ht hW => ⟨⟨(), rfl, trivial, by rw [ht]; exact hP9, va_K.moved hW.alike hK, hD9⟩, hS.F ht⟩) hS.2.2 d_M_keep_25
  · refine lv_iload hx hb d_M_keep_13 (lv_at hl 0 rfl) ?_
    refine lv_iconst (v := 5) hx hb d_M_keep_15 (by decide) ?_
    refine lv_iadd hx hb d_M_keep_16 ?_
    refine lv_aload_n hx hb d_M_keep_17 rfl (lv_at hl 1 rfl) ?_
    refine va_get (D := (dC, dI)) (ci := 3) (v := .ref (b 1)) (C := R_M) (T := T_M) (N := 2) hx hb hts in_M hown hK hP 0 rfl rfl 0 (by decide) (hts _ kfl_M_11) (fun _ h9 => h9) rfl d_M_keep_18 ?_
    refine va_alen (v := nI 5120) hx hb hK hP 1 0 rfl rfl rfl d_M_keep_21 ?_
    refine lv_icmp_le (tgt := 26) hx hb d_M_keep_22 (by decide) (fun c22 => ?_) (fun c22 => ?_)
    · refine lv_aload_n hx hb d_M_keep_26 rfl (lv_at hl 1 rfl) ?_
      refine va_get (D := (dC, dI)) (ci := 3) (v := .ref (b 1)) (C := R_M) (T := T_M) (N := 2) hx hb hts in_M hown hK hP 0 rfl rfl 0 (by decide) (hts _ kfl_M_11) (fun _ h9 => h9) rfl d_M_keep_27 ?_
      refine lv_iload hx hb d_M_keep_30 (lv_at hl 0 rfl) ?_
      refine lv_iload_n hx hb d_M_keep_32 rfl (lv_at hl 2 rfl) ?_
      refine mAst hx hb hK hP hD hS (place_in0 x1 x2 x3) d_M_keep_33 (fun H locs hP hD hS => ?_)
      refine lv_aload_n hx hb d_M_keep_34 rfl (lv_at hl 1 rfl) ?_
      refine va_get (D := (dC, dI)) (ci := 3) (v := .ref (b 1)) (C := R_M) (T := T_M) (N := 2) hx hb hts in_M hown hK hP 0 rfl rfl 0 (by decide) (hts _ kfl_M_11) (fun _ h9 => h9) rfl d_M_keep_35 ?_
      refine lv_iload hx hb d_M_keep_38 (lv_at hl 0 rfl) ?_
      refine lv_iconst (v := 1) hx hb d_M_keep_40 (by decide) ?_
      refine lv_iadd hx hb d_M_keep_41 ?_
      refine lv_iload_n hx hb d_M_keep_42 rfl (lv_at hl 3 rfl) ?_
      refine mAst hx hb hK hP hD hS (place_in1 x1 x2 x3) d_M_keep_43 (fun H locs hP hD hS => ?_)
      refine lv_aload_n hx hb d_M_keep_44 rfl (lv_at hl 1 rfl) ?_
      refine va_get (D := (dC, dI)) (ci := 3) (v := .ref (b 1)) (C := R_M) (T := T_M) (N := 2) hx hb hts in_M hown hK hP 0 rfl rfl 0 (by decide) (hts _ kfl_M_11) (fun _ h9 => h9) rfl d_M_keep_45 ?_
      refine lv_iload hx hb d_M_keep_48 (lv_at hl 0 rfl) ?_
      refine lv_iconst (v := 2) hx hb d_M_keep_50 (by decide) ?_
      refine lv_iadd hx hb d_M_keep_51 ?_
      refine lv_iload_n hx hb d_M_keep_52 rfl (lv_at hl 4 rfl) ?_
      refine mAst hx hb hK hP hD hS (place_in2 x1 x2 x3) d_M_keep_53 (fun H locs hP hD hS => ?_)
      refine lv_aload_n hx hb d_M_keep_54 rfl (lv_at hl 1 rfl) ?_
      refine va_get (D := (dC, dI)) (ci := 3) (v := .ref (b 1)) (C := R_M) (T := T_M) (N := 2) hx hb hts in_M hown hK hP 0 rfl rfl 0 (by decide) (hts _ kfl_M_11) (fun _ h9 => h9) rfl d_M_keep_55 ?_
      refine lv_iload hx hb d_M_keep_58 (lv_at hl 0 rfl) ?_
      refine lv_iconst (v := 3) hx hb d_M_keep_60 (by decide) ?_
      refine lv_iadd hx hb d_M_keep_61 ?_
      refine lv_aload_n hx hb d_M_keep_62 rfl (lv_at hl 1 rfl) ?_
      refine va_get (D := (dC, dI)) (ci := 3) (v := .int ((up (up (up E 0 (j_place x1 x2 x3).toNatClampNeg x1) 0 ((j_place x1 x2 x3) + 1).toNatClampNeg x2) 0 ((j_place x1 x2 x3) + 2).toNatClampNeg x3) 1 0)) (C := R_M) (T := T_M) (N := 2) hx hb hts in_M hown hK hP 0 rfl rfl 1 (by decide) (hts _ kfl_M_15) (fun _ h9 => h9) rfl d_M_keep_63 ?_
      refine mAst hx hb hK hP hD hS (place_in3 x1 x2 x3) d_M_keep_66 (fun H locs hP hD hS => ?_)
      refine lv_aload_n hx hb d_M_keep_67 rfl (lv_at hl 1 rfl) ?_
      refine va_get (D := (dC, dI)) (ci := 3) (v := .ref (b 1)) (C := R_M) (T := T_M) (N := 2) hx hb hts in_M hown hK hP 0 rfl rfl 0 (by decide) (hts _ kfl_M_11) (fun _ h9 => h9) rfl d_M_keep_68 ?_
      refine lv_iload hx hb d_M_keep_71 (lv_at hl 0 rfl) ?_
      refine lv_iconst (v := 4) hx hb d_M_keep_73 (by decide) ?_
      refine lv_iadd hx hb d_M_keep_74 ?_
      refine lv_iload hx hb d_M_keep_75 (lv_at hl 5 rfl) ?_
      refine mAst hx hb hK hP hD hS (place_in4 x1 x2 x3) d_M_keep_77 (fun H locs hP hD hS => ?_)
      have hP9 : va_P (dC, dI) cls0 (mW cI b (j_keep E x1 x2 x3 x4)) _ := (show up (up (up (up (up E 0 (j_place x1 x2 x3).toNatClampNeg x1) 0 ((j_place x1 x2 x3) + 1).toNatClampNeg x2) 0 ((j_place x1 x2 x3) + 2).toNatClampNeg x3) 0 ((j_place x1 x2 x3) + 3).toNatClampNeg ((up (up (up E 0 (j_place x1 x2 x3).toNatClampNeg x1) 0 ((j_place x1 x2 x3) + 1).toNatClampNeg x2) 0 ((j_place x1 x2 x3) + 2).toNatClampNeg x3) 1 0)) 0 ((j_place x1 x2 x3) + 4).toNatClampNeg x4 = j_keep E x1 x2 x3 x4 from by simp only [j_keep, ue_1, c10, c22, Int32.not_lt.mp c10, Int32.not_lt.mpr c22, if_true, if_false, not_true_eq_false, not_false_eq_true, true_and, and_true, false_and, and_false, true_or, or_true, false_or, or_false, ite_true, ite_false, eq_self]) ▸ hP
      have hD9 : va_D A (mW cI b (j_keep E x1 x2 x3 x4)) := (show up (up (up (up (up E 0 (j_place x1 x2 x3).toNatClampNeg x1) 0 ((j_place x1 x2 x3) + 1).toNatClampNeg x2) 0 ((j_place x1 x2 x3) + 2).toNatClampNeg x3) 0 ((j_place x1 x2 x3) + 3).toNatClampNeg ((up (up (up E 0 (j_place x1 x2 x3).toNatClampNeg x1) 0 ((j_place x1 x2 x3) + 1).toNatClampNeg x2) 0 ((j_place x1 x2 x3) + 2).toNatClampNeg x3) 1 0)) 0 ((j_place x1 x2 x3) + 4).toNatClampNeg x4 = j_keep E x1 x2 x3 x4 from by simp only [j_keep, ue_1, c10, c22, Int32.not_lt.mp c10, Int32.not_lt.mpr c22, if_true, if_false, not_true_eq_false, not_false_eq_true, true_and, and_true, false_and, and_false, true_or, or_true, false_or, or_false, ite_true, ite_false, eq_self]) ▸ hD
      exact W.vret hx hb hr (fun t ht hW => ⟨⟨(), rfl, trivial, by rw [ht]; exact hP9, va_K.moved hW.alike hK, hD9⟩, hS.F ht⟩) hS.2.2 d_M_keep_78
    · have hP9 : va_P (dC, dI) cls0 (mW cI b (j_keep E x1 x2 x3 x4)) _ := (show E = j_keep E x1 x2 x3 x4 from by simp only [j_keep, ue_1, c10, c22, Int32.not_lt.mp c10, Int32.not_le.mp c22, if_true, if_false, not_true_eq_false, not_false_eq_true, true_and, and_true, false_and, and_false, true_or, or_true, false_or, or_false, ite_true, ite_false, eq_self]) ▸ hP
      have hD9 : va_D A (mW cI b (j_keep E x1 x2 x3 x4)) := (show E = j_keep E x1 x2 x3 x4 from by simp only [j_keep, ue_1, c10, c22, Int32.not_lt.mp c10, Int32.not_le.mp c22, if_true, if_false, not_true_eq_false, not_false_eq_true, true_and, and_true, false_and, and_false, true_or, or_true, false_or, or_false, ite_true, ite_false, eq_self]) ▸ hD
      exact W.vret hx hb hr (fun t ht hW => ⟨⟨(), rfl, trivial, by rw [ht]; exact hP9, va_K.moved hW.alike hK, hD9⟩, hS.F ht⟩) hS.2.2 d_M_keep_25
end
section
/-! ALGEBRA's world: its own object, a Nodes and a Memo; and its calls -/
abbrev gW (cI : ClassId) (g : Nat) (a b : Nat → Nat) (N E : Mm) : va_W := [(g, .inr (2, [.ref (a 0), .ref (b 0)])), (a 0, .inr (1, [.ref (a 1), .ref (a 2), .ref (a 3), .ref (a 4), .ref (a 5), .int (N 0 0), .int (N 0 1), .int (N 0 2), .int (N 0 3), .int (N 0 4), .int (N 0 5)])), (a 1, .inl (cI, jlen N, .inl (N 1))), (a 2, .inl (cI, 768, .inl (N 2))), (a 3, .inl (cI, 12, .inl (N 3))), (a 4, .inl (cI, 13, .inl (N 4))), (a 5, .inl (cI, 13, .inl (N 5))), (b 0, .inr (3, [.ref (b 1), .int (E 1 0)])), (b 1, .inl (cI, 5120, .inl (E 0)))]
def gM (dC : Nat → ClassId) (dI : Nat → Nat → Nat) (cI : ClassId) (g : Nat) (a b : Nat → Nat) (N E : Mm) (sz : Nat) (U : State) : Prop := U.heap.size = sz ∧ va_P (dC, dI) cls0 (gW cI g a b N E) U.heap ∧ va_K (dC, dI) cls0 [(cI, .int)] U ∧ va_D (fun _ => True) (gW cI g a b N E)
theorem gM_call {dC : Nat → ClassId} {dI : Nat → Nat → Nat} {cI : ClassId} {g : Nat} {a b : Nat → Nat} {N E : Mm} {sz : Nat} (av : List Value) : FrameBlind (va_Pc av (gM dC dI cI g a b N E sz)) := fun a U g mk q => by
  obtain ⟨q0, q1, qP, qK, qD⟩ := q
  exact ⟨q0, q1, qP, va_K.moved (u := U) (U := U.calling g mk a) (Vm.Alike.refl U.vm) qK, qD⟩
def gE (dC : Nat → ClassId) (dI : Nat → Nat → Nat) (cI : ClassId) (g : Nat) (a b : Nat → Nat) (N E : Mm) (A : Nat → Prop) (t : State) : Prop := va_P (dC, dI) cls0 (gW cI g a b N E) t.heap ∧ va_K (dC, dI) cls0 [(cI, .int)] t ∧ va_D A (gW cI g a b N E)
section ACALL
variable {p : Program} {l : Launch} {e : Env} {R : Room} {s : State} {m : MethodId} {args : Array Value} {below : List Frame} {meth : Method} {c : Code} {H H0 : Heap} {locs : List Loc} {cells slots mc ms : Nat} {Q : State → Prop} {cc bytes : ByteArray} {pc maxL nL n index : Nat} {ls : Array Slot} {st rest As : List Value} {A0 : Nat → Prop} {y : MethodName} {cy : Cond} {ret : Option FieldType} {rm : Room} {dC : Nat → ClassId} {dI : Nat → Nat → Nat} {cI : ClassId} {g : Nat} {a b : Nat → Nat} {N N' E E' : Mm} {r : Int32}
theorem aNR (S : CallFix p m c cc nL s args W0 R_A) (hM : Met l y (cy :: W0) rm (va_Pc (.ref (a 0) :: As) (nR dC dI cI a N)) (QcRead r) 0 0 (fun _ => False)) (cw : CallW R s args R_A R_N index y bytes maxL ret (cy :: W0) rm 0 0 n) (hP : va_P (dC, dI) cls0 (gW cI g a b N E) H) (hK : va_K (dC, dI) cls0 [(cI, .int)] s) (hn : As.length = n) (hsz : ls.size = nL) (hst : st = As.reverse ++ .ref (a 0) :: rest) (hW : (rest.map fun v => v.category).sum ≤ 8) (hdg : decode cc pc = .ok (.invokevirtual index, 3)) (hf : cells ≤ R.cells ∧ slots ≤ R.slots)
    (kk : W p l e R s m args below meth c H locs cells slots Q (F0 m (pc + 3) ls (.int r :: rest))) : W p l e R s m args below meth c H locs cells slots Q (F0 m pc ls st) := by
  subst hst
  exact W.callR (W.runV (As := As) (rest := rest) (g := F0 m pc ls (As.reverse ++ .ref (a 0) :: rest)) S hM cw ⟨nR_call _, va_recv hK hP (ci := 1) (q0 := 1) rfl rfl, fun U hU hWu => ⟨rfl, by rw [hU]; exact hP.sub [1, 2, 3, 4, 5, 6] rfl, va_K.moved hWu.alike hK⟩⟩ rfl hn hsz rfl (lv_room hW) hdg hf) kk
theorem aMR (S : CallFix p m c cc nL s args W0 R_A) (hM : Met l y (cy :: W0) rm (va_Pc (.ref (b 0) :: As) (mR dC dI cI b E)) (QcRead r) 0 0 (fun _ => False)) (cw : CallW R s args R_A R_M index y bytes maxL ret (cy :: W0) rm 0 0 n) (hP : va_P (dC, dI) cls0 (gW cI g a b N E) H) (hK : va_K (dC, dI) cls0 [(cI, .int)] s) (hn : As.length = n) (hsz : ls.size = nL) (hst : st = As.reverse ++ .ref (b 0) :: rest) (hW : (rest.map fun v => v.category).sum ≤ 8) (hdg : decode cc pc = .ok (.invokevirtual index, 3)) (hf : cells ≤ R.cells ∧ slots ≤ R.slots)
    (kk : W p l e R s m args below meth c H locs cells slots Q (F0 m (pc + 3) ls (.int r :: rest))) : W p l e R s m args below meth c H locs cells slots Q (F0 m pc ls st) := by
  subst hst
  exact W.callR (W.runV (As := As) (rest := rest) (g := F0 m pc ls (As.reverse ++ .ref (b 0) :: rest)) S hM cw ⟨mR_call _, va_recv hK hP (ci := 3) (q0 := 7) rfl rfl, fun U hU hWu => ⟨rfl, by rw [hU]; exact hP.sub [7, 8] rfl, va_K.moved hWu.alike hK⟩⟩ rfl hn hsz rfl (lv_room hW) hdg hf) kk
theorem aNi (S : CallFix p m c cc nL s args W0 R_A) (hM : Met l y (cy :: W0) rm (va_Pc (.ref (a 0) :: As) (nM dC dI cI a N H.size)) (va_Qi (fun (z : Int32) (_ : Unit) => z = r) (fun _ t => nE dC dI cI a N' (va_A (nW cI a N) H.size) t) (va_A (nW cI a N) H.size)) 0 0 (va_A (nW cI a N) H.size)) (cw : CallW R s args R_A R_N index y bytes maxL ret (cy :: W0) rm 0 0 n) (hP : va_P (dC, dI) cls0 (gW cI g a b N E) H) (hK : va_K (dC, dI) cls0 [(cI, .int)] s) (hD : va_D A0 (gW cI g a b N E)) (hS : va_S A0 H0 H locs) (hA : ∀ q, H0.size ≤ q → A0 q) (hn : As.length = n) (hsz : ls.size = nL) (hst : st = As.reverse ++ .ref (a 0) :: rest) (hW : (rest.map fun v => v.category).sum ≤ 8) (hdg : decode cc pc = .ok (.invokevirtual index, 3)) (hf : cells ≤ R.cells ∧ slots ≤ R.slots)
    (kk : ∀ (H1 : Heap) (locs1 : List Loc), va_P (dC, dI) cls0 (gW cI g a b N' E) H1 → va_D A0 (gW cI g a b N' E) → va_S A0 H0 H1 locs1 → W p l e R s m args below meth c H1 locs1 cells slots Q (F0 m (pc + 3) ls (.int r :: rest))) : W p l e R s m args below meth c H locs cells slots Q (F0 m pc ls st) := by
  subst hst
  have hPc := hP.sub (ws' := nW cI a N) [1, 2, 3, 4, 5, 6] rfl
  have hDc := hD.sub (ws' := nW cI a N) [1, 2, 3, 4, 5, 6] (by decide) rfl
  have hFc := va_free (wc := nW cI a N) hD hS hA [1, 2, 3, 4, 5, 6] rfl
  refine va_calli (va_runV (As := As) (rest := rest) (g := F0 m pc ls (As.reverse ++ .ref (a 0) :: rest)) S hM cw ⟨nM_call _, va_recv hK hP (ci := 1) (q0 := 1) rfl rfl, fun U hU hWu => ⟨rfl, by rw [hU], by rw [hU]; exact hPc, va_K.moved hWu.alike hK, hDc.weaken (fun _ _ _ _ => trivial)⟩⟩ rfl hn hsz rfl (lv_room hW) hdg hf) hS (fun q _ h => hFc q h) hFc (fun z u t H1 locs1 ht hvm hw hB hz1 hk1 hS1 => ?_)
  obtain ⟨hP1, hK1, hD1⟩ := hB
  rw [ht] at hP1
  subst hw
  obtain ⟨hP2, hD2⟩ := va_join (wr := [(g, .inr (2, [.ref (a 0), .ref (b 0)])), (b 0, .inr (3, [.ref (b 1), .int (E 1 0)])), (b 1, .inl (cI, 5120, .inl (E 0)))]) (w1 := nW cI a N') hP hD [1, 2, 3, 4, 5, 6] [0, 7, 8] rfl rfl (by decide) (by decide) hk1 hFc hP1 hD1
  exact kk H1 locs1 (hP2.sub [0, 3, 4, 5, 6, 7, 8, 1, 2] rfl) (hD2.sub [0, 3, 4, 5, 6, 7, 8, 1, 2] (by decide) rfl) hS1
theorem aMv (S : CallFix p m c cc nL s args W0 R_A) (hM : Met l y (cy :: W0) rm (va_Pc (.ref (b 0) :: As) (mM dC dI cI b E H.size)) (va_Qv (fun _ : Unit => True) (fun _ t => mE dC dI cI b E' (va_A (mW cI b E) H.size) t) (va_A (mW cI b E) H.size)) 0 0 (va_A (mW cI b E) H.size)) (cw : CallW R s args R_A R_M index y bytes maxL none (cy :: W0) rm 0 0 n) (hP : va_P (dC, dI) cls0 (gW cI g a b N E) H) (hK : va_K (dC, dI) cls0 [(cI, .int)] s) (hD : va_D A0 (gW cI g a b N E)) (hS : va_S A0 H0 H locs) (hA : ∀ q, H0.size ≤ q → A0 q) (hn : As.length = n) (hsz : ls.size = nL) (hst : st = As.reverse ++ .ref (b 0) :: rest) (hW : (rest.map fun v => v.category).sum ≤ 8) (hdg : decode cc pc = .ok (.invokevirtual index, 3)) (hf : cells ≤ R.cells ∧ slots ≤ R.slots)
    (kk : ∀ (H1 : Heap) (locs1 : List Loc), va_P (dC, dI) cls0 (gW cI g a b N E') H1 → va_D A0 (gW cI g a b N E') → va_S A0 H0 H1 locs1 → W p l e R s m args below meth c H1 locs1 cells slots Q (F0 m (pc + 3) ls rest)) : W p l e R s m args below meth c H locs cells slots Q (F0 m pc ls st) := by
  subst hst
  have hPc := hP.sub (ws' := mW cI b E) [7, 8] rfl
  have hDc := hD.sub (ws' := mW cI b E) [7, 8] (by decide) rfl
  have hFc := va_free (wc := mW cI b E) hD hS hA [7, 8] rfl
  refine va_callv (va_runV (As := As) (rest := rest) (g := F0 m pc ls (As.reverse ++ .ref (b 0) :: rest)) S hM cw ⟨mM_call _, va_recv hK hP (ci := 3) (q0 := 7) rfl rfl, fun U hU hWu => ⟨rfl, by rw [hU], by rw [hU]; exact hPc, va_K.moved hWu.alike hK, hDc.weaken (fun _ _ _ _ => trivial)⟩⟩ rfl hn hsz rfl (lv_room hW) hdg hf) hS (fun q _ h => hFc q h) hFc (fun u t H1 locs1 ht hvm hw hB hz1 hk1 hS1 => ?_)
  obtain ⟨hP1, hK1, hD1⟩ := hB
  rw [ht] at hP1
  obtain ⟨hP2, hD2⟩ := va_join (wr := (g, .inr (2, [.ref (a 0), .ref (b 0)])) :: nW cI a N) (w1 := mW cI b E') hP hD [7, 8] [0, 1, 2, 3, 4, 5, 6] rfl rfl (by decide) (by decide) hk1 hFc hP1 hD1
  exact kk H1 locs1 hP2 hD2 hS1
theorem aNW (S : CallFix p m c cc nL s args W0 R_A) (hM : Met l y (cy :: W0) rm (va_Pc (.ref (a 0) :: As) (nM dC dI cI a N H.size)) (va_Qv (fun u : Nat → Nat => u 0 = a 0) (fun u t => nE dC dI cI u N' (va_A (nW cI a N) H.size) t) (va_A (nW cI a N) H.size)) mc ms (va_A (nW cI a N) H.size)) (cw : CallW R s args R_A R_N index y bytes maxL none (cy :: W0) rm mc ms n) (hP : va_P (dC, dI) cls0 (gW cI g a b N E) H) (hK : va_K (dC, dI) cls0 [(cI, .int)] s) (hD : va_D A0 (gW cI g a b N E)) (hS : va_S A0 H0 H locs) (hA : ∀ q, H0.size ≤ q → A0 q) (hn : As.length = n) (hsz : ls.size = nL) (hst : st = As.reverse ++ .ref (a 0) :: rest) (hW : (rest.map fun v => v.category).sum ≤ 8) (hdg : decode cc pc = .ok (.invokevirtual index, 3)) (hf : cells + mc ≤ R.cells ∧ slots + ms ≤ R.slots)
    (kk : ∀ (u : Nat → Nat) (H1 : Heap) (locs1 : List Loc), u 0 = a 0 → va_P (dC, dI) cls0 (gW cI g u b N' E) H1 → va_D A0 (gW cI g u b N' E) → va_S A0 H0 H1 locs1 → W p l e R s m args below meth c H1 locs1 (cells + mc) (slots + ms) Q (F0 m (pc + 3) ls rest)) : W p l e R s m args below meth c H locs cells slots Q (F0 m pc ls st) := by
  subst hst
  have hPc := hP.sub (ws' := nW cI a N) [1, 2, 3, 4, 5, 6] rfl
  have hDc := hD.sub (ws' := nW cI a N) [1, 2, 3, 4, 5, 6] (by decide) rfl
  have hFc := va_free (wc := nW cI a N) hD hS hA [1, 2, 3, 4, 5, 6] rfl
  refine va_callv (va_runV (As := As) (rest := rest) (g := F0 m pc ls (As.reverse ++ .ref (a 0) :: rest)) S hM cw ⟨nM_call _, va_recv hK hP (ci := 1) (q0 := 1) rfl rfl, fun U hU hWu => ⟨rfl, by rw [hU], by rw [hU]; exact hPc, va_K.moved hWu.alike hK, hDc.weaken (fun _ _ _ _ => trivial)⟩⟩ rfl hn hsz rfl (lv_room hW) hdg hf) hS (fun q _ h => hFc q h) hFc (fun u t H1 locs1 ht hvm hw hB hz1 hk1 hS1 => ?_)
  obtain ⟨hP1, hK1, hD1⟩ := hB
  rw [ht] at hP1
  obtain ⟨hP2, hD2⟩ := va_join (wr := [(g, .inr (2, [.ref (a 0), .ref (b 0)])), (b 0, .inr (3, [.ref (b 1), .int (E 1 0)])), (b 1, .inl (cI, 5120, .inl (E 0)))]) (w1 := nW cI u N') hP hD [1, 2, 3, 4, 5, 6] [0, 7, 8] rfl rfl (by decide) (by decide) hk1 hFc hP1 hD1
  rw [← hw] at hP2 hD2
  exact kk u H1 locs1 hw (hP2.sub [0, 3, 4, 5, 6, 7, 8, 1, 2] rfl) (hD2.sub [0, 3, 4, 5, 6, 7, 8, 1, 2] (by decide) rfl) hS1
/-- a method of Algebra calls another one that answers a number and makes nothing -/
theorem aAi (S : CallFix p m c cc nL s args W0 R_A) (hM : Met l y (cy :: W0) rm (va_Pc (.ref g :: As) (gM dC dI cI g a b N E H.size)) (va_Qi (fun (z : Int32) (_ : Unit) => z = r) (fun _ t => gE dC dI cI g a b N' E' (va_A (gW cI g a b N E) H.size) t) (va_A (gW cI g a b N E) H.size)) 0 0 (va_A (gW cI g a b N E) H.size)) (cw : CallW R s args R_A R_A index y bytes maxL ret (cy :: W0) rm 0 0 n) (hP : va_P (dC, dI) cls0 (gW cI g a b N E) H) (hK : va_K (dC, dI) cls0 [(cI, .int)] s) (hD : va_D A0 (gW cI g a b N E)) (hS : va_S A0 H0 H locs) (hA : ∀ q, H0.size ≤ q → A0 q) (hn : As.length = n) (hsz : ls.size = nL) (hst : st = As.reverse ++ .ref g :: rest) (hW : (rest.map fun v => v.category).sum ≤ 8) (hdg : decode cc pc = .ok (.invokevirtual index, 3)) (hf : cells ≤ R.cells ∧ slots ≤ R.slots)
    (kk : ∀ (H1 : Heap) (locs1 : List Loc), va_P (dC, dI) cls0 (gW cI g a b N' E') H1 → va_D A0 (gW cI g a b N' E') → va_S A0 H0 H1 locs1 → W p l e R s m args below meth c H1 locs1 cells slots Q (F0 m (pc + 3) ls (.int r :: rest))) : W p l e R s m args below meth c H locs cells slots Q (F0 m pc ls st) := by
  subst hst
  have hFc := va_free (wc := gW cI g a b N E) hD hS hA [0, 1, 2, 3, 4, 5, 6, 7, 8] rfl
  refine va_calli (va_runV (As := As) (rest := rest) (g := F0 m pc ls (As.reverse ++ .ref g :: rest)) S hM cw ⟨gM_call _, va_recv hK hP (ci := 2) (q0 := 0) rfl rfl, fun U hU hWu => ⟨rfl, by rw [hU], by rw [hU]; exact hP, va_K.moved hWu.alike hK, hD.weaken (fun _ _ _ _ => trivial)⟩⟩ rfl hn hsz rfl (lv_room hW) hdg hf) hS (fun q _ h => hFc q h) hFc (fun z u t H1 locs1 ht hvm hw hB hz1 hk1 hS1 => ?_)
  obtain ⟨hP1, hK1, hD1⟩ := hB
  rw [ht] at hP1
  subst hw
  obtain ⟨hP2, hD2⟩ := va_join (wr := []) (w1 := gW cI g a b N' E') hP hD [0, 1, 2, 3, 4, 5, 6, 7, 8] [] rfl rfl (by decide) (by decide) hk1 hFc hP1 hD1
  exact kk H1 locs1 hP2 hD2 hS1
/-- .. one that answers nothing and may make the rows anew -/
theorem aAW (S : CallFix p m c cc nL s args W0 R_A) (hM : Met l y (cy :: W0) rm (va_Pc (.ref g :: As) (gM dC dI cI g a b N E H.size)) (va_Qv (fun u : Nat → Nat => u 0 = a 0) (fun u t => gE dC dI cI g u b N' E' (va_A (gW cI g a b N E) H.size) t) (va_A (gW cI g a b N E) H.size)) mc ms (va_A (gW cI g a b N E) H.size)) (cw : CallW R s args R_A R_A index y bytes maxL none (cy :: W0) rm mc ms n) (hP : va_P (dC, dI) cls0 (gW cI g a b N E) H) (hK : va_K (dC, dI) cls0 [(cI, .int)] s) (hD : va_D A0 (gW cI g a b N E)) (hS : va_S A0 H0 H locs) (hA : ∀ q, H0.size ≤ q → A0 q) (hn : As.length = n) (hsz : ls.size = nL) (hst : st = As.reverse ++ .ref g :: rest) (hW : (rest.map fun v => v.category).sum ≤ 8) (hdg : decode cc pc = .ok (.invokevirtual index, 3)) (hf : cells + mc ≤ R.cells ∧ slots + ms ≤ R.slots)
    (kk : ∀ (u : Nat → Nat) (H1 : Heap) (locs1 : List Loc), u 0 = a 0 → va_P (dC, dI) cls0 (gW cI g u b N' E') H1 → va_D A0 (gW cI g u b N' E') → va_S A0 H0 H1 locs1 → W p l e R s m args below meth c H1 locs1 (cells + mc) (slots + ms) Q (F0 m (pc + 3) ls rest)) : W p l e R s m args below meth c H locs cells slots Q (F0 m pc ls st) := by
  subst hst
  have hFc := va_free (wc := gW cI g a b N E) hD hS hA [0, 1, 2, 3, 4, 5, 6, 7, 8] rfl
  refine va_callv (va_runV (As := As) (rest := rest) (g := F0 m pc ls (As.reverse ++ .ref g :: rest)) S hM cw ⟨gM_call _, va_recv hK hP (ci := 2) (q0 := 0) rfl rfl, fun U hU hWu => ⟨rfl, by rw [hU], by rw [hU]; exact hP, va_K.moved hWu.alike hK, hD.weaken (fun _ _ _ _ => trivial)⟩⟩ rfl hn hsz rfl (lv_room hW) hdg hf) hS (fun q _ h => hFc q h) hFc (fun u t H1 locs1 ht hvm hw hB hz1 hk1 hS1 => ?_)
  obtain ⟨hP1, hK1, hD1⟩ := hB
  rw [ht] at hP1
  obtain ⟨hP2, hD2⟩ := va_join (wr := []) (w1 := gW cI g u b N' E') hP hD [0, 1, 2, 3, 4, 5, 6, 7, 8] [] rfl rfl (by decide) (by decide) hk1 hFc hP1 hD1
  exact kk u H1 locs1 hw hP2 hD2 hS1
end ACALL
end
