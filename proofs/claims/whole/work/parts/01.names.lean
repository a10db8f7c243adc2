-- ===== PART A: goes FIRST, ahead of the names: the tables' words, and 'selects' of the private methods out of them =====
/-- a private method of a class that the tables say can be made, by its rows of tables_1 -/
def lw_okq (q : MethodName × Nat) : Prop := (q.1.cls ≠ "java/lang/invoke/MethodHandle" ∧ q.1.cls ≠ "java/lang/invoke/VarHandle") ∧ Cond.instantiable q.1.cls q.2 ∈ tables_1 ∧ Cond.privateMethod q.1 ∈ tables_1 ∧ Cond.instanceMethod q.1 ∈ tables_1
theorem lw_p0 : lw_okq (⟨"ShadowCount", "countByRule", "(II)I"⟩, 8) := ⟨⟨by decide +kernel, by decide +kernel⟩, List.mem_of_getElem? (i := 21) (by decide +kernel), List.mem_of_getElem? (i := 668) (by decide +kernel), List.mem_of_getElem? (i := 669) (by decide +kernel)⟩
theorem lw_p1 : lw_okq (⟨"ShadowCountModel", "readText", "()I"⟩, 37) := ⟨⟨by decide +kernel, by decide +kernel⟩, List.mem_of_getElem? (i := 812) (by decide +kernel), List.mem_of_getElem? (i := 948) (by decide +kernel), List.mem_of_getElem? (i := 949) (by decide +kernel)⟩
theorem lw_p2 : lw_okq (⟨"ShadowCountModel", "readPart", "(I)V"⟩, 37) := ⟨⟨by decide +kernel, by decide +kernel⟩, List.mem_of_getElem? (i := 812) (by decide +kernel), List.mem_of_getElem? (i := 952) (by decide +kernel), List.mem_of_getElem? (i := 953) (by decide +kernel)⟩
theorem lw_p3 : lw_okq (⟨"ShadowCountModel", "readBodyPart", "()V"⟩, 37) := ⟨⟨by decide +kernel, by decide +kernel⟩, List.mem_of_getElem? (i := 812) (by decide +kernel), List.mem_of_getElem? (i := 956) (by decide +kernel), List.mem_of_getElem? (i := 957) (by decide +kernel)⟩
theorem lw_p4 : lw_okq (⟨"ShadowCountModel", "fail", "()V"⟩, 37) := ⟨⟨by decide +kernel, by decide +kernel⟩, List.mem_of_getElem? (i := 812) (by decide +kernel), List.mem_of_getElem? (i := 963) (by decide +kernel), List.mem_of_getElem? (i := 964) (by decide +kernel)⟩
theorem lw_p5 : lw_okq (⟨"ShadowCountModel", "freeRows", "(I)I"⟩, 37) := ⟨⟨by decide +kernel, by decide +kernel⟩, List.mem_of_getElem? (i := 812) (by decide +kernel), List.mem_of_getElem? (i := 967) (by decide +kernel), List.mem_of_getElem? (i := 968) (by decide +kernel)⟩
theorem lw_p6 : lw_okq (⟨"ShadowCountModel", "sign", "(I)I"⟩, 37) := ⟨⟨by decide +kernel, by decide +kernel⟩, List.mem_of_getElem? (i := 812) (by decide +kernel), List.mem_of_getElem? (i := 971) (by decide +kernel), List.mem_of_getElem? (i := 972) (by decide +kernel)⟩
theorem lw_p7 : lw_okq (⟨"ShadowCountModel", "untold", "()I"⟩, 37) := ⟨⟨by decide +kernel, by decide +kernel⟩, List.mem_of_getElem? (i := 812) (by decide +kernel), List.mem_of_getElem? (i := 982) (by decide +kernel), List.mem_of_getElem? (i := 983) (by decide +kernel)⟩
theorem lw_p8 : lw_okq (⟨"ShadowCountModel", "isBody", "(I)Z"⟩, 37) := ⟨⟨by decide +kernel, by decide +kernel⟩, List.mem_of_getElem? (i := 812) (by decide +kernel), List.mem_of_getElem? (i := 995) (by decide +kernel), List.mem_of_getElem? (i := 996) (by decide +kernel)⟩
theorem lw_p9 : lw_okq (⟨"ShadowCountModel", "isHill", "(I)Z"⟩, 37) := ⟨⟨by decide +kernel, by decide +kernel⟩, List.mem_of_getElem? (i := 812) (by decide +kernel), List.mem_of_getElem? (i := 1009) (by decide +kernel), List.mem_of_getElem? (i := 1010) (by decide +kernel)⟩
theorem lw_p10 : lw_okq (⟨"ShadowCountModel", "isTaken", "(II)Z"⟩, 37) := ⟨⟨by decide +kernel, by decide +kernel⟩, List.mem_of_getElem? (i := 812) (by decide +kernel), List.mem_of_getElem? (i := 1023) (by decide +kernel), List.mem_of_getElem? (i := 1024) (by decide +kernel)⟩
theorem lw_p11 : lw_okq (⟨"ShadowCountModel", "keepAct", "()V"⟩, 37) := ⟨⟨by decide +kernel, by decide +kernel⟩, List.mem_of_getElem? (i := 812) (by decide +kernel), List.mem_of_getElem? (i := 1027) (by decide +kernel), List.mem_of_getElem? (i := 1028) (by decide +kernel)⟩
theorem lw_p12 : lw_okq (⟨"ShadowCountModel", "darkOf", "(II)I"⟩, 37) := ⟨⟨by decide +kernel, by decide +kernel⟩, List.mem_of_getElem? (i := 812) (by decide +kernel), List.mem_of_getElem? (i := 1061) (by decide +kernel), List.mem_of_getElem? (i := 1062) (by decide +kernel)⟩
theorem lw_p13 : lw_okq (⟨"ShadowCountModel", "lit", "(II)I"⟩, 37) := ⟨⟨by decide +kernel, by decide +kernel⟩, List.mem_of_getElem? (i := 812) (by decide +kernel), List.mem_of_getElem? (i := 1068) (by decide +kernel), List.mem_of_getElem? (i := 1069) (by decide +kernel)⟩
theorem lw_p14 : lw_okq (⟨"ShadowCountModel", "layRuns", "(II)I"⟩, 37) := ⟨⟨by decide +kernel, by decide +kernel⟩, List.mem_of_getElem? (i := 812) (by decide +kernel), List.mem_of_getElem? (i := 1076) (by decide +kernel), List.mem_of_getElem? (i := 1077) (by decide +kernel)⟩
theorem lw_p15 : lw_okq (⟨"ShadowCountModel", "countedOf", "(II)I"⟩, 37) := ⟨⟨by decide +kernel, by decide +kernel⟩, List.mem_of_getElem? (i := 812) (by decide +kernel), List.mem_of_getElem? (i := 1093) (by decide +kernel), List.mem_of_getElem? (i := 1094) (by decide +kernel)⟩
def lw_privs_1 : List (MethodName × Nat) := [(⟨"ShadowCount", "countByRule", "(II)I"⟩, 8), (⟨"ShadowCountModel", "readText", "()I"⟩, 37), (⟨"ShadowCountModel", "readPart", "(I)V"⟩, 37), (⟨"ShadowCountModel", "readBodyPart", "()V"⟩, 37), (⟨"ShadowCountModel", "fail", "()V"⟩, 37), (⟨"ShadowCountModel", "freeRows", "(I)I"⟩, 37), (⟨"ShadowCountModel", "sign", "(I)I"⟩, 37), (⟨"ShadowCountModel", "untold", "()I"⟩, 37), (⟨"ShadowCountModel", "isBody", "(I)Z"⟩, 37), (⟨"ShadowCountModel", "isHill", "(I)Z"⟩, 37), (⟨"ShadowCountModel", "isTaken", "(II)Z"⟩, 37), (⟨"ShadowCountModel", "keepAct", "()V"⟩, 37), (⟨"ShadowCountModel", "darkOf", "(II)I"⟩, 37), (⟨"ShadowCountModel", "lit", "(II)I"⟩, 37), (⟨"ShadowCountModel", "layRuns", "(II)I"⟩, 37), (⟨"ShadowCountModel", "countedOf", "(II)I"⟩, 37)]
theorem lw_r1 : ∀ q ∈ lw_privs_1, lw_okq q := List.forall_mem_cons.mpr ⟨lw_p0, List.forall_mem_cons.mpr ⟨lw_p1, List.forall_mem_cons.mpr ⟨lw_p2, List.forall_mem_cons.mpr ⟨lw_p3, List.forall_mem_cons.mpr ⟨lw_p4, List.forall_mem_cons.mpr ⟨lw_p5, List.forall_mem_cons.mpr ⟨lw_p6, List.forall_mem_cons.mpr ⟨lw_p7, List.forall_mem_cons.mpr ⟨lw_p8, List.forall_mem_cons.mpr ⟨lw_p9, List.forall_mem_cons.mpr ⟨lw_p10, List.forall_mem_cons.mpr ⟨lw_p11, List.forall_mem_cons.mpr ⟨lw_p12, List.forall_mem_cons.mpr ⟨lw_p13, List.forall_mem_cons.mpr ⟨lw_p14, List.forall_mem_cons.mpr ⟨lw_p15, fun _ h => absurd h List.not_mem_nil⟩⟩⟩⟩⟩⟩⟩⟩⟩⟩⟩⟩⟩⟩⟩⟩
theorem lw_p16 : lw_okq (⟨"ShadowCountModel", "counts", "()I"⟩, 37) := ⟨⟨by decide +kernel, by decide +kernel⟩, List.mem_of_getElem? (i := 812) (by decide +kernel), List.mem_of_getElem? (i := 1101) (by decide +kernel), List.mem_of_getElem? (i := 1102) (by decide +kernel)⟩
theorem lw_p17 : lw_okq (⟨"ShadowCountModel", "isHidden", "(III)Z"⟩, 37) := ⟨⟨by decide +kernel, by decide +kernel⟩, List.mem_of_getElem? (i := 812) (by decide +kernel), List.mem_of_getElem? (i := 1109) (by decide +kernel), List.mem_of_getElem? (i := 1110) (by decide +kernel)⟩
theorem lw_p18 : lw_okq (⟨"ShadowCountModel", "layFits", "(Z)V"⟩, 37) := ⟨⟨by decide +kernel, by decide +kernel⟩, List.mem_of_getElem? (i := 812) (by decide +kernel), List.mem_of_getElem? (i := 1126) (by decide +kernel), List.mem_of_getElem? (i := 1127) (by decide +kernel)⟩
theorem lw_p19 : lw_okq (⟨"ShadowCountModel", "isFit", "(I)Z"⟩, 37) := ⟨⟨by decide +kernel, by decide +kernel⟩, List.mem_of_getElem? (i := 812) (by decide +kernel), List.mem_of_getElem? (i := 1131) (by decide +kernel), List.mem_of_getElem? (i := 1132) (by decide +kernel)⟩
theorem lw_p20 : lw_okq (⟨"ShadowCountModel", "rowDark", "(II)I"⟩, 37) := ⟨⟨by decide +kernel, by decide +kernel⟩, List.mem_of_getElem? (i := 812) (by decide +kernel), List.mem_of_getElem? (i := 1135) (by decide +kernel), List.mem_of_getElem? (i := 1136) (by decide +kernel)⟩
theorem lw_p21 : lw_okq (⟨"ShadowCountModel", "layFit", "(I)V"⟩, 37) := ⟨⟨by decide +kernel, by decide +kernel⟩, List.mem_of_getElem? (i := 812) (by decide +kernel), List.mem_of_getElem? (i := 1139) (by decide +kernel), List.mem_of_getElem? (i := 1140) (by decide +kernel)⟩
def lw_privs_2 : List (MethodName × Nat) := [(⟨"ShadowCountModel", "counts", "()I"⟩, 37), (⟨"ShadowCountModel", "isHidden", "(III)Z"⟩, 37), (⟨"ShadowCountModel", "layFits", "(Z)V"⟩, 37), (⟨"ShadowCountModel", "isFit", "(I)Z"⟩, 37), (⟨"ShadowCountModel", "rowDark", "(II)I"⟩, 37), (⟨"ShadowCountModel", "layFit", "(I)V"⟩, 37)]
theorem lw_r2 : ∀ q ∈ lw_privs_2, lw_okq q := List.forall_mem_cons.mpr ⟨lw_p16, List.forall_mem_cons.mpr ⟨lw_p17, List.forall_mem_cons.mpr ⟨lw_p18, List.forall_mem_cons.mpr ⟨lw_p19, List.forall_mem_cons.mpr ⟨lw_p20, List.forall_mem_cons.mpr ⟨lw_p21, fun _ h => absurd h List.not_mem_nil⟩⟩⟩⟩⟩⟩
def lw_privs : List (MethodName × Nat) := lw_privs_1 ++ (lw_privs_2)
def lw_tbl : List Cond := k2_sels lw_privs ++ tables_1
theorem lw_privs_ok : ∀ q ∈ lw_privs, lw_okq q := by
  show ∀ q ∈ lw_privs_1 ++ (lw_privs_2), lw_okq q
  exact List.forall_mem_append.mpr ⟨lw_r1, lw_r2⟩

def RX0 : String := "ShadowCount$Acts"
def TX0 : u_T := fun k => match k with
  | 0 => ("ShadowCount$Acts", "sort", "[I", true)
  | 1 => ("ShadowCount$Acts", "body", "[I", true)
  | 2 => ("ShadowCount$Acts", "kind", "[I", true)
  | 3 => ("ShadowCount$Acts", "x", "[I", true)
  | 4 => ("ShadowCount$Acts", "y", "[I", true)
  | 5 => ("ShadowCount$Acts", "oldest", "I", false)
  | _ => ("ShadowCount$Acts", "size", "I", false)
def tyX0 : Nat → FieldType := fun k => match k with
  | 0 => .array .int
  | 1 => .array .int
  | 2 => .array .int
  | 3 => .array .int
  | 4 => .array .int
  | 5 => .int
  | _ => .int
abbrev wsX00 : List Cond := u_ws RX0 TX0 7
theorem nmX0 : ∀ a, a < 7 → ∀ b, b < 7 → a ≠ b → (TX0 a).2.1 ≠ (TX0 b).2.1 := by decide +kernel
theorem tyX0_ok : ∀ k, k < 7 → parseFieldDescriptor (TX0 k).2.2.1 = some (tyX0 k) := by decide +kernel
abbrev cX0_init : ByteArray := prog_2_method_1_code
def yX0_init : MethodName := ⟨RX0, "<init>", "()V"⟩
abbrev cX0_forget : ByteArray := prog_2_method_2_code
def yX0_forget : MethodName := ⟨RX0, "forget", "()V"⟩
abbrev cX0_remember : ByteArray := prog_2_method_3_code
def yX0_remember : MethodName := ⟨RX0, "remember", "(IILShadowCount$Bodies;)V"⟩
abbrev cX0_undo : ByteArray := prog_2_method_4_code
def yX0_undo : MethodName := ⟨RX0, "undo", "(LShadowCount$Bodies;)V"⟩
def RX1 : String := "ShadowCount$Bodies"
def TX1 : u_T := fun k => match k with
  | 0 => ("ShadowCount$Bodies", "kind", "[I", true)
  | 1 => ("ShadowCount$Bodies", "x", "[I", true)
  | 2 => ("ShadowCount$Bodies", "y", "[I", true)
  | _ => ("ShadowCount$Bodies", "size", "I", false)
def tyX1 : Nat → FieldType := fun k => match k with
  | 0 => .array .int
  | 1 => .array .int
  | 2 => .array .int
  | _ => .int
abbrev wsX10 : List Cond := u_ws RX1 TX1 4
theorem nmX1 : ∀ a, a < 4 → ∀ b, b < 4 → a ≠ b → (TX1 a).2.1 ≠ (TX1 b).2.1 := by decide +kernel
theorem tyX1_ok : ∀ k, k < 4 → parseFieldDescriptor (TX1 k).2.2.1 = some (tyX1 k) := by decide +kernel
abbrev cX1_init : ByteArray := prog_3_method_1_code
def yX1_init : MethodName := ⟨RX1, "<init>", "()V"⟩
abbrev cX1_has : ByteArray := prog_3_method_2_code
def yX1_has : MethodName := ⟨RX1, "has", "(I)Z"⟩
abbrev cX1_height : ByteArray := prog_3_method_3_code
def yX1_height : MethodName := ⟨RX1, "height", "(I)I"⟩
abbrev cX1_heads : ByteArray := prog_3_method_4_code
def yX1_heads : MethodName := ⟨RX1, "heads", "(I)I"⟩
abbrev cX1_allHeads : ByteArray := prog_3_method_5_code
def yX1_allHeads : MethodName := ⟨RX1, "allHeads", "()I"⟩
abbrev cX1_standsAt : ByteArray := prog_3_method_6_code
def yX1_standsAt : MethodName := ⟨RX1, "standsAt", "(II)Z"⟩
abbrev cX1_inColumn : ByteArray := prog_3_method_7_code
def yX1_inColumn : MethodName := ⟨RX1, "inColumn", "(I)I"⟩
abbrev cX1_insert : ByteArray := prog_3_method_8_code
def yX1_insert : MethodName := ⟨RX1, "insert", "(IIII)V"⟩
abbrev cX1_remove : ByteArray := prog_3_method_9_code
def yX1_remove : MethodName := ⟨RX1, "remove", "(I)V"⟩
abbrev cX1_renumber : ByteArray := prog_3_method_10_code
def yX1_renumber : MethodName := ⟨RX1, "renumber", "(II)V"⟩
abbrev cX1_copyFrom : ByteArray := prog_3_method_11_code
def yX1_copyFrom : MethodName := ⟨RX1, "copyFrom", "(LShadowCount$Bodies;)V"⟩
def RX2 : String := "ShadowCount$Field"
def TX2 : u_T := fun k => match k with
  | 0 => ("ShadowCount$Field", "bodies", "LShadowCount$Bodies;", true)
  | _ => ("ShadowCount$Field", "ground", "LShadowCount$Ground;", true)
def tyX2 : Nat → FieldType := fun k => match k with
  | 0 => .object "ShadowCount$Bodies"
  | _ => .object "ShadowCount$Ground"
abbrev wsX20 : List Cond := u_ws RX2 TX2 2
theorem nmX2 : ∀ a, a < 2 → ∀ b, b < 2 → a ≠ b → (TX2 a).2.1 ≠ (TX2 b).2.1 := by decide +kernel
theorem tyX2_ok : ∀ k, k < 2 → parseFieldDescriptor (TX2 k).2.2.1 = some (tyX2 k) := by decide +kernel
abbrev cX2_init : ByteArray := prog_4_method_1_code
def yX2_init : MethodName := ⟨RX2, "<init>", "()V"⟩
abbrev cX2_clear : ByteArray := prog_4_method_2_code
def yX2_clear : MethodName := ⟨RX2, "clear", "()V"⟩
abbrev cX2_copyFrom : ByteArray := prog_4_method_3_code
def yX2_copyFrom : MethodName := ⟨RX2, "copyFrom", "(LShadowCount$Field;)V"⟩
abbrev cX2_darkCells : ByteArray := prog_4_method_4_code
def yX2_darkCells : MethodName := ⟨RX2, "darkCells", "(II)I"⟩
abbrev cX2_darkCellsOf : ByteArray := prog_4_method_5_code
def yX2_darkCellsOf : MethodName := ⟨RX2, "darkCellsOf", "(II)I"⟩
abbrev cX2_lonely : ByteArray := prog_4_method_6_code
def yX2_lonely : MethodName := ⟨RX2, "lonely", "(I)I"⟩
abbrev cX2_isLonely : ByteArray := prog_4_method_7_code
def yX2_isLonely : MethodName := ⟨RX2, "isLonely", "(II)Z"⟩
abbrev cX2_hiddenCell : ByteArray := prog_4_method_8_code
def yX2_hiddenCell : MethodName := ⟨RX2, "hiddenCell", "(I)I"⟩
abbrev cX2_watchedCells : ByteArray := prog_4_method_9_code
def yX2_watchedCells : MethodName := ⟨RX2, "watchedCells", "(I)I"⟩
def RX3 : String := "ShadowCount$Fits"
def TX3 : u_T := fun k => match k with
  | 0 => ("ShadowCount$Fits", "child", "[J", true)
  | 1 => ("ShadowCount$Fits", "man", "[J", true)
  | 2 => ("ShadowCount$Fits", "choices", "[I", true)
  | 3 => ("ShadowCount$Fits", "darkFrom", "[J", true)
  | 4 => ("ShadowCount$Fits", "waysFrom", "[I", true)
  | 5 => ("ShadowCount$Fits", "childReach", "[I", true)
  | 6 => ("ShadowCount$Fits", "manReach", "[I", true)
  | _ => ("ShadowCount$Fits", "wanted", "J", false)
def tyX3 : Nat → FieldType := fun k => match k with
  | 0 => .array .long
  | 1 => .array .long
  | 2 => .array .int
  | 3 => .array .long
  | 4 => .array .int
  | 5 => .array .int
  | 6 => .array .int
  | _ => .long
abbrev wsX30 : List Cond := u_ws RX3 TX3 8
theorem nmX3 : ∀ a, a < 8 → ∀ b, b < 8 → a ≠ b → (TX3 a).2.1 ≠ (TX3 b).2.1 := by decide +kernel
theorem tyX3_ok : ∀ k, k < 8 → parseFieldDescriptor (TX3 k).2.2.1 = some (tyX3 k) := by decide +kernel
abbrev cX3_init : ByteArray := prog_5_method_1_code
def yX3_init : MethodName := ⟨RX3, "<init>", "()V"⟩
abbrev cX3_prepare : ByteArray := prog_5_method_2_code
def yX3_prepare : MethodName := ⟨RX3, "prepare", "(LShadowCount$Sights;)V"⟩
abbrev cX3_shadowsOf : ByteArray := prog_5_method_3_code
def yX3_shadowsOf : MethodName := ⟨RX3, "shadowsOf", "(IILShadowCount$Sights;)J"⟩
abbrev cX3_mayStand : ByteArray := prog_5_method_4_code
def yX3_mayStand : MethodName := ⟨RX3, "mayStand", "(J)Z"⟩
abbrev cX3_tallest : ByteArray := prog_5_method_5_code
def yX3_tallest : MethodName := ⟨RX3, "tallest", "(I)J"⟩
abbrev cX3_exist : ByteArray := prog_5_method_6_code
def yX3_exist : MethodName := ⟨RX3, "exist", "()Z"⟩
abbrev cX3_number : ByteArray := prog_5_method_7_code
def yX3_number : MethodName := ⟨RX3, "number", "()I"⟩
abbrev cX3_waysToFill : ByteArray := prog_5_method_8_code
def yX3_waysToFill : MethodName := ⟨RX3, "waysToFill", "(LShadowCount$Fits;IJ)I"⟩
abbrev cX3_mostHeads : ByteArray := prog_5_method_9_code
def yX3_mostHeads : MethodName := ⟨RX3, "mostHeads", "()I"⟩
abbrev cX3_fewestHeads : ByteArray := prog_5_method_10_code
def yX3_fewestHeads : MethodName := ⟨RX3, "fewestHeads", "()I"⟩
abbrev cX3_fewestFrom : ByteArray := prog_5_method_11_code
def yX3_fewestFrom : MethodName := ⟨RX3, "fewestFrom", "(LShadowCount$Fits;IJ)I"⟩
abbrev cX3_surelyTaken : ByteArray := prog_5_method_12_code
def yX3_surelyTaken : MethodName := ⟨RX3, "surelyTaken", "()I"⟩
abbrev cX3_darkWithout : ByteArray := prog_5_method_13_code
def yX3_darkWithout : MethodName := ⟨RX3, "darkWithout", "(I)J"⟩
abbrev cX3_tellingMinute : ByteArray := prog_5_method_14_code
def yX3_tellingMinute : MethodName := ⟨RX3, "tellingMinute", "()I"⟩
abbrev cX3_unlikeRows : ByteArray := prog_5_method_15_code
def yX3_unlikeRows : MethodName := ⟨RX3, "unlikeRows", "(I)I"⟩
abbrev cX3_mayShow : ByteArray := prog_5_method_16_code
def yX3_mayShow : MethodName := ⟨RX3, "mayShow", "(I)Z"⟩
def RX4 : String := "ShadowCount$Ground"
def TX4 : u_T := fun k => match k with
  | 0 => ("ShadowCount$Ground", "hills", "[[I", true)
  | 1 => ("ShadowCount$Ground", "clouds", "[[I", true)
  | 2 => ("ShadowCount$Ground", "sunFrom", "[I", true)
  | 3 => ("ShadowCount$Ground", "hillCount", "I", false)
  | 4 => ("ShadowCount$Ground", "cloudCount", "I", false)
  | _ => ("ShadowCount$Ground", "cliffRows", "I", false)
def tyX4 : Nat → FieldType := fun k => match k with
  | 0 => .array (.array .int)
  | 1 => .array (.array .int)
  | 2 => .array .int
  | 3 => .int
  | 4 => .int
  | _ => .int
abbrev wsX40 : List Cond := u_ws RX4 TX4 6
theorem nmX4 : ∀ a, a < 6 → ∀ b, b < 6 → a ≠ b → (TX4 a).2.1 ≠ (TX4 b).2.1 := by decide +kernel
theorem tyX4_ok : ∀ k, k < 6 → parseFieldDescriptor (TX4 k).2.2.1 = some (tyX4 k) := by decide +kernel
abbrev cX4_init : ByteArray := prog_6_method_1_code
def yX4_init : MethodName := ⟨RX4, "<init>", "()V"⟩
abbrev cX4_clear : ByteArray := prog_6_method_2_code
def yX4_clear : MethodName := ⟨RX4, "clear", "()V"⟩
abbrev cX4_hasHill : ByteArray := prog_6_method_3_code
def yX4_hasHill : MethodName := ⟨RX4, "hasHill", "(I)Z"⟩
abbrev cX4_hasCliff : ByteArray := prog_6_method_4_code
def yX4_hasCliff : MethodName := ⟨RX4, "hasCliff", "(I)Z"⟩
abbrev cX4_addHill : ByteArray := prog_6_method_5_code
def yX4_addHill : MethodName := ⟨RX4, "addHill", "([I)V"⟩
abbrev cX4_addCloud : ByteArray := prog_6_method_6_code
def yX4_addCloud : MethodName := ⟨RX4, "addCloud", "([I)V"⟩
abbrev cX4_addCliff : ByteArray := prog_6_method_7_code
def yX4_addCliff : MethodName := ⟨RX4, "addCliff", "(II)V"⟩
abbrev cX4_sunnyCells : ByteArray := prog_6_method_8_code
def yX4_sunnyCells : MethodName := ⟨RX4, "sunnyCells", "(II)I"⟩
abbrev cX4_view : ByteArray := prog_6_method_9_code
def yX4_view : MethodName := ⟨RX4, "view", "(II)I"⟩
abbrev cX4_copyFrom : ByteArray := prog_6_method_10_code
def yX4_copyFrom : MethodName := ⟨RX4, "copyFrom", "(LShadowCount$Ground;)V"⟩
abbrev cX4_copyFour : ByteArray := prog_6_method_11_code
def yX4_copyFour : MethodName := ⟨RX4, "copyFour", "([I[I)V"⟩
def RX5 : String := "ShadowCount$Reader"
def TX5 : u_T := fun k => match k with
  | 0 => ("ShadowCount$Reader", "draft", "LShadowCount$Field;", true)
  | 1 => ("ShadowCount$Reader", "told", "[I", true)
  | 2 => ("ShadowCount$Reader", "toldCount", "I", false)
  | 3 => ("ShadowCount$Reader", "part", "I", false)
  | _ => ("ShadowCount$Reader", "begun", "Z", false)
def tyX5 : Nat → FieldType := fun k => match k with
  | 0 => .object "ShadowCount$Field"
  | 1 => .array .int
  | 2 => .int
  | 3 => .int
  | _ => .boolean
abbrev wsX50 : List Cond := u_ws RX5 TX5 5
theorem nmX5 : ∀ a, a < 5 → ∀ b, b < 5 → a ≠ b → (TX5 a).2.1 ≠ (TX5 b).2.1 := by decide +kernel
theorem tyX5_ok : ∀ k, k < 5 → parseFieldDescriptor (TX5 k).2.2.1 = some (tyX5 k) := by decide +kernel
abbrev cX5_init : ByteArray := prog_7_method_1_code
def yX5_init : MethodName := ⟨RX5, "<init>", "()V"⟩
abbrev cX5_firstFault : ByteArray := prog_7_method_2_code
def yX5_firstFault : MethodName := ⟨RX5, "firstFault", "(LShadowCount$Text;)I"⟩
abbrev cX5_accepts : ByteArray := prog_7_method_3_code
def yX5_accepts : MethodName := ⟨RX5, "accepts", "(I)Z"⟩
abbrev cX5_opensPart : ByteArray := prog_7_method_4_code
def yX5_opensPart : MethodName := ⟨RX5, "opensPart", "(I)Z"⟩
abbrev cX5_signsOfPart : ByteArray := prog_7_method_5_code
def yX5_signsOfPart : MethodName := ⟨RX5, "signsOfPart", "()I"⟩
abbrev cX5_allows : ByteArray := prog_7_method_6_code
def yX5_allows : MethodName := ⟨RX5, "allows", "(I)Z"⟩
abbrev cX5_allowsForBody : ByteArray := prog_7_method_7_code
def yX5_allowsForBody : MethodName := ⟨RX5, "allowsForBody", "(I)Z"⟩
abbrev cX5_allowsForCliff : ByteArray := prog_7_method_8_code
def yX5_allowsForCliff : MethodName := ⟨RX5, "allowsForCliff", "(I)Z"⟩
abbrev cX5_allowsInRange : ByteArray := prog_7_method_9_code
def yX5_allowsInRange : MethodName := ⟨RX5, "allowsInRange", "(II)Z"⟩
abbrev cX5_endPart : ByteArray := prog_7_method_10_code
def yX5_endPart : MethodName := ⟨RX5, "endPart", "()V"⟩
abbrev cX5_valueOf : ByteArray := prog_7_method_11_code
def yX5_valueOf : MethodName := ⟨RX5, "valueOf", "(I)I"⟩
def RX6 : String := "ShadowCount$Runs"
def TX6 : u_T := fun k => match k with
  | 0 => ("ShadowCount$Runs", "row", "[I", true)
  | 1 => ("ShadowCount$Runs", "first", "[I", true)
  | 2 => ("ShadowCount$Runs", "length", "[I", true)
  | _ => ("ShadowCount$Runs", "size", "I", false)
def tyX6 : Nat → FieldType := fun k => match k with
  | 0 => .array .int
  | 1 => .array .int
  | 2 => .array .int
  | _ => .int
abbrev wsX60 : List Cond := u_ws RX6 TX6 4
theorem nmX6 : ∀ a, a < 4 → ∀ b, b < 4 → a ≠ b → (TX6 a).2.1 ≠ (TX6 b).2.1 := by decide +kernel
theorem tyX6_ok : ∀ k, k < 4 → parseFieldDescriptor (TX6 k).2.2.1 = some (tyX6 k) := by decide +kernel
abbrev cX6_init : ByteArray := prog_8_method_1_code
def yX6_init : MethodName := ⟨RX6, "<init>", "()V"⟩
abbrev cX6_look : ByteArray := prog_8_method_2_code
def yX6_look : MethodName := ⟨RX6, "look", "(LShadowCount$Field;II)V"⟩
abbrev cX6_addRunsOf : ByteArray := prog_8_method_3_code
def yX6_addRunsOf : MethodName := ⟨RX6, "addRunsOf", "(II)V"⟩
abbrev cX6_add : ByteArray := prog_8_method_4_code
def yX6_add : MethodName := ⟨RX6, "add", "(III)V"⟩
abbrev cX6_headsByRule : ByteArray := prog_8_method_5_code
def yX6_headsByRule : MethodName := ⟨RX6, "headsByRule", "(I)I"⟩
abbrev cX6_headsOfRun : ByteArray := prog_8_method_6_code
def yX6_headsOfRun : MethodName := ⟨RX6, "headsOfRun", "(II)I"⟩
def RX7 : String := "ShadowCount$Sights"
def TX7 : u_T := fun k => match k with
  | 0 => ("ShadowCount$Sights", "minute", "[I", true)
  | 1 => ("ShadowCount$Sights", "cells", "[I", true)
  | _ => ("ShadowCount$Sights", "size", "I", false)
def tyX7 : Nat → FieldType := fun k => match k with
  | 0 => .array .int
  | 1 => .array .int
  | _ => .int
abbrev wsX70 : List Cond := u_ws RX7 TX7 3
theorem nmX7 : ∀ a, a < 3 → ∀ b, b < 3 → a ≠ b → (TX7 a).2.1 ≠ (TX7 b).2.1 := by decide +kernel
theorem tyX7_ok : ∀ k, k < 3 → parseFieldDescriptor (TX7 k).2.2.1 = some (tyX7 k) := by decide +kernel
abbrev cX7_init : ByteArray := prog_9_method_1_code
def yX7_init : MethodName := ⟨RX7, "<init>", "()V"⟩
abbrev cX7_add : ByteArray := prog_9_method_2_code
def yX7_add : MethodName := ⟨RX7, "add", "(II)V"⟩
abbrev cX7_copyFrom : ByteArray := prog_9_method_3_code
def yX7_copyFrom : MethodName := ⟨RX7, "copyFrom", "(LShadowCount$Sights;)V"⟩
def RX8 : String := "ShadowCount$Slot"
def TX8 : u_T := fun k => match k with
  | 0 => ("ShadowCount$Slot", "bodies", "LShadowCount$Bodies;", true)
  | 1 => ("ShadowCount$Slot", "sights", "LShadowCount$Sights;", true)
  | _ => ("ShadowCount$Slot", "filled", "Z", false)
def tyX8 : Nat → FieldType := fun k => match k with
  | 0 => .object "ShadowCount$Bodies"
  | 1 => .object "ShadowCount$Sights"
  | _ => .boolean
abbrev wsX80 : List Cond := u_ws RX8 TX8 3
theorem nmX8 : ∀ a, a < 3 → ∀ b, b < 3 → a ≠ b → (TX8 a).2.1 ≠ (TX8 b).2.1 := by decide +kernel
theorem tyX8_ok : ∀ k, k < 3 → parseFieldDescriptor (TX8 k).2.2.1 = some (tyX8 k) := by decide +kernel
abbrev cX8_init : ByteArray := prog_10_method_1_code
def yX8_init : MethodName := ⟨RX8, "<init>", "()V"⟩
def RX9 : String := "ShadowCount$Text"
def TX9 : u_T := fun k => match k with
  | 0 => ("ShadowCount$Text", "bytes", "[B", true)
  | _ => ("ShadowCount$Text", "size", "I", false)
def tyX9 : Nat → FieldType := fun k => match k with
  | 0 => .array .byte
  | _ => .int
abbrev wsX90 : List Cond := u_ws RX9 TX9 2
theorem nmX9 : ∀ a, a < 2 → ∀ b, b < 2 → a ≠ b → (TX9 a).2.1 ≠ (TX9 b).2.1 := by decide +kernel
theorem tyX9_ok : ∀ k, k < 2 → parseFieldDescriptor (TX9 k).2.2.1 = some (tyX9 k) := by decide +kernel
abbrev cX9_init : ByteArray := prog_11_method_1_code
def yX9_init : MethodName := ⟨RX9, "<init>", "()V"⟩
abbrev cX9_add : ByteArray := prog_11_method_2_code
def yX9_add : MethodName := ⟨RX9, "add", "(I)V"⟩
def RX10 : String := "ShadowCount"
def TX10 : u_T := fun k => match k with
  | 0 => ("ShadowCount", "text", "LShadowCount$Text;", true)
  | 1 => ("ShadowCount", "reader", "LShadowCount$Reader;", true)
  | 2 => ("ShadowCount", "field", "LShadowCount$Field;", true)
  | 3 => ("ShadowCount", "acts", "LShadowCount$Acts;", true)
  | 4 => ("ShadowCount", "seen", "LShadowCount$Runs;", true)
  | 5 => ("ShadowCount", "sights", "LShadowCount$Sights;", true)
  | 6 => ("ShadowCount", "rows", "LShadowCount$Fits;", true)
  | _ => ("ShadowCount", "slots", "[LShadowCount$Slot;", true)
def tyX10 : Nat → FieldType := fun k => match k with
  | 0 => .object "ShadowCount$Text"
  | 1 => .object "ShadowCount$Reader"
  | 2 => .object "ShadowCount$Field"
  | 3 => .object "ShadowCount$Acts"
  | 4 => .object "ShadowCount$Runs"
  | 5 => .object "ShadowCount$Sights"
  | 6 => .object "ShadowCount$Fits"
  | _ => .array (.object "ShadowCount$Slot")
abbrev wsX100 : List Cond := u_ws RX10 TX10 8
theorem nmX10 : ∀ a, a < 8 → ∀ b, b < 8 → a ≠ b → (TX10 a).2.1 ≠ (TX10 b).2.1 := by decide +kernel
theorem tyX10_ok : ∀ k, k < 8 → parseFieldDescriptor (TX10 k).2.2.1 = some (tyX10 k) := by decide +kernel
abbrev cX10_init : ByteArray := prog_1_method_1_code
def yX10_init : MethodName := ⟨RX10, "<init>", "()V"⟩
abbrev cX10_write : ByteArray := prog_1_method_2_code
def yX10_write : MethodName := ⟨RX10, "write", "(IJ)I"⟩
abbrev cX10_wipe : ByteArray := prog_1_method_3_code
def yX10_wipe : MethodName := ⟨RX10, "wipe", "()I"⟩
abbrev cX10_fault : ByteArray := prog_1_method_4_code
def yX10_fault : MethodName := ⟨RX10, "fault", "()I"⟩
abbrev cX10_place : ByteArray := prog_1_method_5_code
def yX10_place : MethodName := ⟨RX10, "place", "()I"⟩
abbrev cX10_body : ByteArray := prog_1_method_6_code
def yX10_body : MethodName := ⟨RX10, "body", "(II)I"⟩
abbrev cX10_hill : ByteArray := prog_1_method_7_code
def yX10_hill : MethodName := ⟨RX10, "hill", "(II)I"⟩
abbrev cX10_put : ByteArray := prog_1_method_8_code
def yX10_put : MethodName := ⟨RX10, "put", "(III)I"⟩
abbrev cX10_move : ByteArray := prog_1_method_9_code
def yX10_move : MethodName := ⟨RX10, "move", "(III)I"⟩
abbrev cX10_take : ByteArray := prog_1_method_10_code
def yX10_take : MethodName := ⟨RX10, "take", "(I)I"⟩
abbrev cX10_back : ByteArray := prog_1_method_11_code
def yX10_back : MethodName := ⟨RX10, "back", "()I"⟩
abbrev cX10_shadow : ByteArray := prog_1_method_12_code
def yX10_shadow : MethodName := ⟨RX10, "shadow", "(II)I"⟩
abbrev cX10_dark : ByteArray := prog_1_method_13_code
def yX10_dark : MethodName := ⟨RX10, "dark", "(II)I"⟩
abbrev cX10_runs : ByteArray := prog_1_method_14_code
def yX10_runs : MethodName := ⟨RX10, "runs", "(II)I"⟩
abbrev cX10_run : ByteArray := prog_1_method_15_code
def yX10_run : MethodName := ⟨RX10, "run", "(IIII)I"⟩
abbrev cX10_alone : ByteArray := prog_1_method_16_code
def yX10_alone : MethodName := ⟨RX10, "alone", "(I)I"⟩
abbrev cX10_counted : ByteArray := prog_1_method_17_code
def yX10_counted : MethodName := ⟨RX10, "counted", "(II)I"⟩
abbrev cX10_best : ByteArray := prog_1_method_18_code
def yX10_best : MethodName := ⟨RX10, "best", "(I)I"⟩
abbrev cX10_hide : ByteArray := prog_1_method_19_code
def yX10_hide : MethodName := ⟨RX10, "hide", "(I)I"⟩
abbrev cX10_sight : ByteArray := prog_1_method_20_code
def yX10_sight : MethodName := ⟨RX10, "sight", "(II)I"⟩
abbrev cX10_unsee : ByteArray := prog_1_method_21_code
def yX10_unsee : MethodName := ⟨RX10, "unsee", "()I"⟩
abbrev cX10_fits : ByteArray := prog_1_method_22_code
def yX10_fits : MethodName := ⟨RX10, "fits", "()I"⟩
abbrev cX10_people : ByteArray := prog_1_method_23_code
def yX10_people : MethodName := ⟨RX10, "people", "(Z)I"⟩
abbrev cX10_sure : ByteArray := prog_1_method_24_code
def yX10_sure : MethodName := ⟨RX10, "sure", "()I"⟩
abbrev cX10_next : ByteArray := prog_1_method_25_code
def yX10_next : MethodName := ⟨RX10, "next", "()I"⟩
abbrev cX10_keep : ByteArray := prog_1_method_26_code
def yX10_keep : MethodName := ⟨RX10, "keep", "(I)I"⟩
abbrev cX10_again : ByteArray := prog_1_method_27_code
def yX10_again : MethodName := ⟨RX10, "again", "(I)I"⟩
abbrev cX10_count : ByteArray := prog_1_method_28_code
def yX10_count : MethodName := ⟨RX10, "count", "(I)I"⟩
abbrev cX10_countByRule : ByteArray := prog_1_method_29_code
def yX10_countByRule : MethodName := ⟨RX10, "countByRule", "(II)I"⟩
abbrev cX10_isBelow : ByteArray := prog_1_method_30_code
def yX10_isBelow : MethodName := ⟨RX10, "isBelow", "(II)Z"⟩
abbrev cX10_isMinute : ByteArray := prog_1_method_31_code
def yX10_isMinute : MethodName := ⟨RX10, "isMinute", "(I)Z"⟩
abbrev cX10_isCell : ByteArray := prog_1_method_32_code
def yX10_isCell : MethodName := ⟨RX10, "isCell", "(II)Z"⟩
abbrev cX10_lengthOfShadow : ByteArray := prog_1_method_33_code
def yX10_lengthOfShadow : MethodName := ⟨RX10, "lengthOfShadow", "(II)I"⟩
abbrev cX10_reach : ByteArray := prog_1_method_34_code
def yX10_reach : MethodName := ⟨RX10, "reach", "(III)I"⟩
abbrev cX10_columnBits : ByteArray := prog_1_method_35_code
def yX10_columnBits : MethodName := ⟨RX10, "columnBits", "(II)I"⟩
def RX11 : String := "ShadowCountModel"
def TX11 : u_T := fun k => match k with
  | 0 => ("ShadowCountModel", "readBody", "[I", true)
  | 1 => ("ShadowCountModel", "readHill", "[I", true)
  | 2 => ("ShadowCountModel", "readCloud", "[I", true)
  | 3 => ("ShadowCountModel", "readSun", "[I", true)
  | 4 => ("ShadowCountModel", "readBodies", "I", false)
  | 5 => ("ShadowCountModel", "readHills", "I", false)
  | 6 => ("ShadowCountModel", "readClouds", "I", false)
  | 7 => ("ShadowCountModel", "body", "[I", true)
  | 8 => ("ShadowCountModel", "hill", "[I", true)
  | 9 => ("ShadowCountModel", "cloud", "[I", true)
  | 10 => ("ShadowCountModel", "sun", "[I", true)
  | 11 => ("ShadowCountModel", "bodies", "I", false)
  | 12 => ("ShadowCountModel", "hills", "I", false)
  | 13 => ("ShadowCountModel", "clouds", "I", false)
  | 14 => ("ShadowCountModel", "cliffs", "I", false)
  | 15 => ("ShadowCountModel", "text", "[I", true)
  | 16 => ("ShadowCountModel", "length", "I", false)
  | 17 => ("ShadowCountModel", "at", "I", false)
  | 18 => ("ShadowCountModel", "faultAt", "I", false)
  | 19 => ("ShadowCountModel", "acts", "I", false)
  | 20 => ("ShadowCountModel", "next", "I", false)
  | 21 => ("ShadowCountModel", "row", "[I", true)
  | 22 => ("ShadowCountModel", "found", "[I", true)
  | 23 => ("ShadowCountModel", "sights", "I", false)
  | 24 => ("ShadowCountModel", "sightAt", "[I", true)
  | 25 => ("ShadowCountModel", "sightCells", "[I", true)
  | 26 => ("ShadowCountModel", "reaches", "[I", true)
  | 27 => ("ShadowCountModel", "fitMany", "I", false)
  | 28 => ("ShadowCountModel", "fitLeast", "I", false)
  | 29 => ("ShadowCountModel", "fitMost", "I", false)
  | 30 => ("ShadowCountModel", "fitSure", "I", false)
  | 31 => ("ShadowCountModel", "shown", "[Z", true)
  | 32 => ("ShadowCountModel", "isKept", "[Z", true)
  | 33 => ("ShadowCountModel", "keptBody", "[I", true)
  | 34 => ("ShadowCountModel", "keptAt", "[I", true)
  | 35 => ("ShadowCountModel", "keptCells", "[I", true)
  | _ => ("ShadowCountModel", "keptSights", "[I", true)
def tyX11 : Nat → FieldType := fun k => match k with
  | 0 => .array .int
  | 1 => .array .int
  | 2 => .array .int
  | 3 => .array .int
  | 4 => .int
  | 5 => .int
  | 6 => .int
  | 7 => .array .int
  | 8 => .array .int
  | 9 => .array .int
  | 10 => .array .int
  | 11 => .int
  | 12 => .int
  | 13 => .int
  | 14 => .int
  | 15 => .array .int
  | 16 => .int
  | 17 => .int
  | 18 => .int
  | 19 => .int
  | 20 => .int
  | 21 => .array .int
  | 22 => .array .int
  | 23 => .int
  | 24 => .array .int
  | 25 => .array .int
  | 26 => .array .int
  | 27 => .int
  | 28 => .int
  | 29 => .int
  | 30 => .int
  | 31 => .array .boolean
  | 32 => .array .boolean
  | 33 => .array .int
  | 34 => .array .int
  | 35 => .array .int
  | _ => .array .int
abbrev wsX110 : List Cond := u_ws RX11 TX11 37
theorem nmX11 : ∀ a, a < 37 → ∀ b, b < 37 → a ≠ b → (TX11 a).2.1 ≠ (TX11 b).2.1 := by decide +kernel
theorem tyX11_ok : ∀ k, k < 37 → parseFieldDescriptor (TX11 k).2.2.1 = some (tyX11 k) := by decide +kernel
abbrev cX11_init : ByteArray := prog_13_method_1_code
def yX11_init : MethodName := ⟨RX11, "<init>", "()V"⟩
abbrev cX11_in : ByteArray := prog_13_method_3_code
def yX11_in : MethodName := ⟨RX11, "in", "(JJJ)Z"⟩
abbrev cX11_write : ByteArray := prog_13_method_4_code
def yX11_write : MethodName := ⟨RX11, "write", "(IJ)I"⟩
abbrev cX11_wipe : ByteArray := prog_13_method_5_code
def yX11_wipe : MethodName := ⟨RX11, "wipe", "()I"⟩
abbrev cX11_fail : ByteArray := prog_13_method_6_code
def yX11_fail : MethodName := ⟨RX11, "fail", "()V"⟩
abbrev cX11_sign : ByteArray := prog_13_method_7_code
def yX11_sign : MethodName := ⟨RX11, "sign", "(I)I"⟩
abbrev cX11_bits : ByteArray := prog_13_method_8_code
def yX11_bits : MethodName := ⟨RX11, "bits", "(II)I"⟩
abbrev cX11_kindOf : ByteArray := prog_13_method_9_code
def yX11_kindOf : MethodName := ⟨RX11, "kindOf", "(I)I"⟩
abbrev cX11_freeRows : ByteArray := prog_13_method_10_code
def yX11_freeRows : MethodName := ⟨RX11, "freeRows", "(I)I"⟩
abbrev cX11_readBodyPart : ByteArray := prog_13_method_11_code
def yX11_readBodyPart : MethodName := ⟨RX11, "readBodyPart", "()V"⟩
abbrev cX11_untold : ByteArray := prog_13_method_12_code
def yX11_untold : MethodName := ⟨RX11, "untold", "()I"⟩
abbrev cX11_readText : ByteArray := prog_13_method_13_code
def yX11_readText : MethodName := ⟨RX11, "readText", "()I"⟩
abbrev cX11_readPart : ByteArray := prog_13_method_14_code
def yX11_readPart : MethodName := ⟨RX11, "readPart", "(I)V"⟩
abbrev cX11_fault : ByteArray := prog_13_method_15_code
def yX11_fault : MethodName := ⟨RX11, "fault", "()I"⟩
abbrev cX11_place : ByteArray := prog_13_method_16_code
def yX11_place : MethodName := ⟨RX11, "place", "()I"⟩
abbrev cX11_isBody : ByteArray := prog_13_method_17_code
def yX11_isBody : MethodName := ⟨RX11, "isBody", "(I)Z"⟩
abbrev cX11_isHill : ByteArray := prog_13_method_18_code
def yX11_isHill : MethodName := ⟨RX11, "isHill", "(I)Z"⟩
abbrev cX11_highOf : ByteArray := prog_13_method_19_code
def yX11_highOf : MethodName := ⟨RX11, "highOf", "(I)I"⟩
abbrev cX11_manyOf : ByteArray := prog_13_method_20_code
def yX11_manyOf : MethodName := ⟨RX11, "manyOf", "(I)I"⟩
abbrev cX11_body : ByteArray := prog_13_method_21_code
def yX11_body : MethodName := ⟨RX11, "body", "(II)I"⟩
abbrev cX11_hill : ByteArray := prog_13_method_22_code
def yX11_hill : MethodName := ⟨RX11, "hill", "(II)I"⟩
abbrev cX11_keepAct : ByteArray := prog_13_method_23_code
def yX11_keepAct : MethodName := ⟨RX11, "keepAct", "()V"⟩
abbrev cX11_isCell : ByteArray := prog_13_method_24_code
def yX11_isCell : MethodName := ⟨RX11, "isCell", "(II)Z"⟩
abbrev cX11_isTaken : ByteArray := prog_13_method_25_code
def yX11_isTaken : MethodName := ⟨RX11, "isTaken", "(II)Z"⟩
abbrev cX11_put : ByteArray := prog_13_method_26_code
def yX11_put : MethodName := ⟨RX11, "put", "(III)I"⟩
abbrev cX11_without : ByteArray := prog_13_method_27_code
def yX11_without : MethodName := ⟨RX11, "without", "(I)I"⟩
abbrev cX11_move : ByteArray := prog_13_method_28_code
def yX11_move : MethodName := ⟨RX11, "move", "(III)I"⟩
abbrev cX11_take : ByteArray := prog_13_method_29_code
def yX11_take : MethodName := ⟨RX11, "take", "(I)I"⟩
abbrev cX11_back : ByteArray := prog_13_method_30_code
def yX11_back : MethodName := ⟨RX11, "back", "()I"⟩
abbrev cX11_isMinute : ByteArray := prog_13_method_31_code
def yX11_isMinute : MethodName := ⟨RX11, "isMinute", "(I)Z"⟩
abbrev cX11_longAt : ByteArray := prog_13_method_32_code
def yX11_longAt : MethodName := ⟨RX11, "longAt", "(II)I"⟩
abbrev cX11_reach : ByteArray := prog_13_method_33_code
def yX11_reach : MethodName := ⟨RX11, "reach", "(III)I"⟩
abbrev cX11_lit : ByteArray := prog_13_method_34_code
def yX11_lit : MethodName := ⟨RX11, "lit", "(II)I"⟩
abbrev cX11_darkOf : ByteArray := prog_13_method_35_code
def yX11_darkOf : MethodName := ⟨RX11, "darkOf", "(II)I"⟩
abbrev cX11_shadow : ByteArray := prog_13_method_36_code
def yX11_shadow : MethodName := ⟨RX11, "shadow", "(II)I"⟩
abbrev cX11_dark : ByteArray := prog_13_method_37_code
def yX11_dark : MethodName := ⟨RX11, "dark", "(II)I"⟩
abbrev cX11_layRuns : ByteArray := prog_13_method_38_code
def yX11_layRuns : MethodName := ⟨RX11, "layRuns", "(II)I"⟩
abbrev cX11_runs : ByteArray := prog_13_method_39_code
def yX11_runs : MethodName := ⟨RX11, "runs", "(II)I"⟩
abbrev cX11_run : ByteArray := prog_13_method_40_code
def yX11_run : MethodName := ⟨RX11, "run", "(IIII)I"⟩
abbrev cX11_alone : ByteArray := prog_13_method_41_code
def yX11_alone : MethodName := ⟨RX11, "alone", "(I)I"⟩
abbrev cX11_countedOf : ByteArray := prog_13_method_42_code
def yX11_countedOf : MethodName := ⟨RX11, "countedOf", "(II)I"⟩
abbrev cX11_counted : ByteArray := prog_13_method_43_code
def yX11_counted : MethodName := ⟨RX11, "counted", "(II)I"⟩
abbrev cX11_counts : ByteArray := prog_13_method_44_code
def yX11_counts : MethodName := ⟨RX11, "counts", "()I"⟩
abbrev cX11_best : ByteArray := prog_13_method_45_code
def yX11_best : MethodName := ⟨RX11, "best", "(I)I"⟩
abbrev cX11_isHidden : ByteArray := prog_13_method_46_code
def yX11_isHidden : MethodName := ⟨RX11, "isHidden", "(III)Z"⟩
abbrev cX11_hide : ByteArray := prog_13_method_47_code
def yX11_hide : MethodName := ⟨RX11, "hide", "(I)I"⟩
abbrev cX11_sight : ByteArray := prog_13_method_48_code
def yX11_sight : MethodName := ⟨RX11, "sight", "(II)I"⟩
abbrev cX11_unsee : ByteArray := prog_13_method_49_code
def yX11_unsee : MethodName := ⟨RX11, "unsee", "()I"⟩
abbrev cX11_rowDark : ByteArray := prog_13_method_50_code
def yX11_rowDark : MethodName := ⟨RX11, "rowDark", "(II)I"⟩
abbrev cX11_isFit : ByteArray := prog_13_method_51_code
def yX11_isFit : MethodName := ⟨RX11, "isFit", "(I)Z"⟩
abbrev cX11_layFits : ByteArray := prog_13_method_52_code
def yX11_layFits : MethodName := ⟨RX11, "layFits", "(Z)V"⟩
abbrev cX11_layFit : ByteArray := prog_13_method_53_code
def yX11_layFit : MethodName := ⟨RX11, "layFit", "(I)V"⟩
abbrev cX11_fits : ByteArray := prog_13_method_54_code
def yX11_fits : MethodName := ⟨RX11, "fits", "()I"⟩
abbrev cX11_people : ByteArray := prog_13_method_55_code
def yX11_people : MethodName := ⟨RX11, "people", "(Z)I"⟩
abbrev cX11_sure : ByteArray := prog_13_method_56_code
def yX11_sure : MethodName := ⟨RX11, "sure", "()I"⟩
abbrev cX11_next : ByteArray := prog_13_method_57_code
def yX11_next : MethodName := ⟨RX11, "next", "()I"⟩
abbrev cX11_keep : ByteArray := prog_13_method_58_code
def yX11_keep : MethodName := ⟨RX11, "keep", "(I)I"⟩
abbrev cX11_again : ByteArray := prog_13_method_59_code
def yX11_again : MethodName := ⟨RX11, "again", "(I)I"⟩
abbrev cX11_count : ByteArray := prog_13_method_60_code
def yX11_count : MethodName := ⟨RX11, "count", "(I)I"⟩
def RJ11 : String := "java/lang/Character"
def TJ11 : u_T := fun k => match k with
  | _ => ("", "", "", false)
def tyJ11 : Nat → FieldType := fun k => match k with
  | _ => .int
abbrev wsJ110 : List Cond := u_ws RJ11 TJ11 0
theorem nmJ11 : ∀ a, a < 0 → ∀ b, b < 0 → a ≠ b → (TJ11 a).2.1 ≠ (TJ11 b).2.1 := by decide +kernel
theorem tyJ11_ok : ∀ k, k < 0 → parseFieldDescriptor (TJ11 k).2.2.1 = some (tyJ11 k) := by decide +kernel
abbrev cJ11_isValidCodePoint_9a6ad : ByteArray := prog_14_method_11_code
def yJ11_isValidCodePoint_9a6ad : MethodName := ⟨RJ11, "isValidCodePoint", "(I)Z"⟩
abbrev cJ11_highSurrogate_5068e : ByteArray := prog_14_method_28_code
def yJ11_highSurrogate_5068e : MethodName := ⟨RJ11, "highSurrogate", "(I)C"⟩
abbrev cJ11_lowSurrogate_5068e : ByteArray := prog_14_method_29_code
def yJ11_lowSurrogate_5068e : MethodName := ⟨RJ11, "lowSurrogate", "(I)C"⟩
def RJ9 : String := "java/lang/Math"
def TJ9 : u_T := fun k => match k with
  | _ => ("", "", "", false)
def tyJ9 : Nat → FieldType := fun k => match k with
  | _ => .int
abbrev wsJ90 : List Cond := u_ws RJ9 TJ9 0
theorem nmJ9 : ∀ a, a < 0 → ∀ b, b < 0 → a ≠ b → (TJ9 a).2.1 ≠ (TJ9 b).2.1 := by decide +kernel
theorem tyJ9_ok : ∀ k, k < 0 → parseFieldDescriptor (TJ9 k).2.2.1 = some (tyJ9 k) := by decide +kernel
abbrev cJ9_abs_0f7a4 : ByteArray := prog_15_method_59_code
def yJ9_abs_0f7a4 : MethodName := ⟨RJ9, "abs", "(I)I"⟩
abbrev cJ9_max_7cf53 : ByteArray := prog_15_method_65_code
def yJ9_max_7cf53 : MethodName := ⟨RJ9, "max", "(II)I"⟩
abbrev cJ9_min_7cf53 : ByteArray := prog_15_method_69_code
def yJ9_min_7cf53 : MethodName := ⟨RJ9, "min", "(II)I"⟩
def RJ0 : String := "java/lang/String"
def TJ0 : u_T := fun k => match k with
  | _ => ("", "", "", false)
def tyJ0 : Nat → FieldType := fun k => match k with
  | _ => .int
abbrev wsJ00 : List Cond := u_ws RJ0 TJ0 0
theorem nmJ0 : ∀ a, a < 0 → ∀ b, b < 0 → a ≠ b → (TJ0 a).2.1 ≠ (TJ0 b).2.1 := by decide +kernel
theorem tyJ0_ok : ∀ k, k < 0 → parseFieldDescriptor (TJ0 k).2.2.1 = some (tyJ0 k) := by decide +kernel
abbrev cJ0_length_8abf5 : ByteArray := prog_16_method_54_code
def yJ0_length_8abf5 : MethodName := ⟨RJ0, "length", "()I"⟩
abbrev cJ0_indexOf_0f7a4 : ByteArray := prog_16_method_79_code
def yJ0_indexOf_0f7a4 : MethodName := ⟨RJ0, "indexOf", "(I)I"⟩
abbrev cJ0_indexOf_7cf53 : ByteArray := prog_16_method_80_code
def yJ0_indexOf_7cf53 : MethodName := ⟨RJ0, "indexOf", "(II)I"⟩
abbrev cJ0_coder_7d493 : ByteArray := prog_16_method_152_code
def yJ0_coder_7d493 : MethodName := ⟨RJ0, "coder", "()B"⟩
abbrev cJ0_isLatin1_aae02 : ByteArray := prog_16_method_154_code
def yJ0_isLatin1_aae02 : MethodName := ⟨RJ0, "isLatin1", "()Z"⟩
abbrev cJ0_checkBoundsBeginEnd_23922 : ByteArray := prog_16_method_158_code
def yJ0_checkBoundsBeginEnd_23922 : MethodName := ⟨RJ0, "checkBoundsBeginEnd", "(III)V"⟩
def RJ1 : String := "java/lang/StringLatin1"
def TJ1 : u_T := fun k => match k with
  | _ => ("", "", "", false)
def tyJ1 : Nat → FieldType := fun k => match k with
  | _ => .int
abbrev wsJ10 : List Cond := u_ws RJ1 TJ1 0
theorem nmJ1 : ∀ a, a < 0 → ∀ b, b < 0 → a ≠ b → (TJ1 a).2.1 ≠ (TJ1 b).2.1 := by decide +kernel
theorem tyJ1_ok : ∀ k, k < 0 → parseFieldDescriptor (TJ1 k).2.2.1 = some (tyJ1 k) := by decide +kernel
abbrev cJ1_canEncode_9a6ad : ByteArray := prog_17_method_4_code
def yJ1_canEncode_9a6ad : MethodName := ⟨RJ1, "canEncode", "(I)Z"⟩
abbrev cJ1_indexOf_4cfef : ByteArray := prog_17_method_22_code
def yJ1_indexOf_4cfef : MethodName := ⟨RJ1, "indexOf", "([BIII)I"⟩
abbrev cJ1_indexOfChar_4cfef : ByteArray := prog_17_method_23_code
def yJ1_indexOfChar_4cfef : MethodName := ⟨RJ1, "indexOfChar", "([BIII)I"⟩
def RJ2 : String := "java/lang/StringUTF16"
def TJ2 : u_T := fun k => match k with
  | _ => ("", "", "", false)
def tyJ2 : Nat → FieldType := fun k => match k with
  | _ => .int
abbrev wsJ20 : List Cond := u_ws RJ2 TJ2 0
theorem nmJ2 : ∀ a, a < 0 → ∀ b, b < 0 → a ≠ b → (TJ2 a).2.1 ≠ (TJ2 b).2.1 := by decide +kernel
theorem tyJ2_ok : ∀ k, k < 0 → parseFieldDescriptor (TJ2 k).2.2.1 = some (tyJ2 k) := by decide +kernel
abbrev cJ2_getChar_3b067 : ByteArray := prog_18_method_5_code
def yJ2_getChar_3b067 : MethodName := ⟨RJ2, "getChar", "([BI)C"⟩
abbrev cJ2_length_9d52b : ByteArray := prog_18_method_6_code
def yJ2_length_9d52b : MethodName := ⟨RJ2, "length", "([B)I"⟩
abbrev cJ2_indexOf_4cfef : ByteArray := prog_18_method_40_code
def yJ2_indexOf_4cfef : MethodName := ⟨RJ2, "indexOf", "([BIII)I"⟩
abbrev cJ2_indexOfChar_4cfef : ByteArray := prog_18_method_47_code
def yJ2_indexOfChar_4cfef : MethodName := ⟨RJ2, "indexOfChar", "([BIII)I"⟩
abbrev cJ2_indexOfCharUnsafe_4cfef : ByteArray := prog_18_method_48_code
def yJ2_indexOfCharUnsafe_4cfef : MethodName := ⟨RJ2, "indexOfCharUnsafe", "([BIII)I"⟩
abbrev cJ2_indexOfSupplementary_4cfef : ByteArray := prog_18_method_49_code
def yJ2_indexOfSupplementary_4cfef : MethodName := ⟨RJ2, "indexOfSupplementary", "([BIII)I"⟩
abbrev cJ2_checkBoundsBeginEnd_d044e : ByteArray := prog_18_method_93_code
def yJ2_checkBoundsBeginEnd_d044e : MethodName := ⟨RJ2, "checkBoundsBeginEnd", "(II[B)V"⟩
def RJ10 : String := "java/lang/System"
def TJ10 : u_T := fun k => match k with
  | _ => ("", "", "", false)
def tyJ10 : Nat → FieldType := fun k => match k with
  | _ => .int
abbrev wsJ100 : List Cond := u_ws RJ10 TJ10 0
theorem nmJ10 : ∀ a, a < 0 → ∀ b, b < 0 → a ≠ b → (TJ10 a).2.1 ≠ (TJ10 b).2.1 := by decide +kernel
theorem tyJ10_ok : ∀ k, k < 0 → parseFieldDescriptor (TJ10 k).2.2.1 = some (tyJ10 k) := by decide +kernel
def RJ3 : String := "jdk/internal/util/Preconditions"
def TJ3 : u_T := fun k => match k with
  | _ => ("", "", "", false)
def tyJ3 : Nat → FieldType := fun k => match k with
  | _ => .int
abbrev wsJ30 : List Cond := u_ws RJ3 TJ3 0
theorem nmJ3 : ∀ a, a < 0 → ∀ b, b < 0 → a ≠ b → (TJ3 a).2.1 ≠ (TJ3 b).2.1 := by decide +kernel
theorem tyJ3_ok : ∀ k, k < 0 → parseFieldDescriptor (TJ3 k).2.2.1 = some (tyJ3 k) := by decide +kernel
abbrev cJ3_checkFromToIndex_8c36e : ByteArray := prog_20_method_12_code
def yJ3_checkFromToIndex_8c36e : MethodName := ⟨RJ3, "checkFromToIndex", "(IIILjava/util/function/BiFunction;)I"⟩
def RL : String := "ShadowCountLaw"
abbrev cL_law : ByteArray := code
def yL_law : MethodName := ⟨RL, "law", "([I)Z"⟩
abbrev vwCl : List vw_C := [(RX0, TX0, 7), (RX1, TX1, 4), (RX2, TX2, 2), (RX3, TX3, 8), (RX4, TX4, 6), (RX5, TX5, 5), (RX6, TX6, 4), (RX7, TX7, 3), (RX8, TX8, 3), (RX9, TX9, 2), (RX10, TX10, 8), (RX11, TX11, 37)]
