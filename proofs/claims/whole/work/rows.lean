section
-- ===== PART A: goes FIRST, ahead of the names: the tables' words, and 'selects' of the private methods out of them =====
/-- a private method of a class that the tables say can be made, by its rows of tables_1 -/
def lw_okq (q : MethodName × Nat) : Prop := (q.1.cls ≠ "java/lang/invoke/MethodHandle" ∧ q.1.cls ≠ "java/lang/invoke/VarHandle") ∧ Cond.instantiable q.1.cls q.2 ∈ tables_1 ∧ Cond.privateMethod q.1 ∈ tables_1 ∧ Cond.instanceMethod q.1 ∈ tables_1
theorem lw_p0 : lw_okq (⟨"ShadowCount", "countByRule", "(II)I"⟩, 8) := ⟨⟨by decide +kernel, by decide +kernel⟩, List.mem_of_getElem? (i := 21) (by decide +kernel), List.mem_of_getElem? (i := 668) (by decide +kernel), List.mem_of_getElem? (i := 669) (by decide +kernel)⟩
theorem lw_p1 : lw_okq (⟨"ShadowCountModel", "readText", "()I"⟩, 37) := ⟨⟨by decide +kernel, by decide +kernel⟩, List.mem_of_getElem? (i := 813) (by decide +kernel), List.mem_of_getElem? (i := 949) (by decide +kernel), List.mem_of_getElem? (i := 950) (by decide +kernel)⟩
theorem lw_p2 : lw_okq (⟨"ShadowCountModel", "readPart", "(I)V"⟩, 37) := ⟨⟨by decide +kernel, by decide +kernel⟩, List.mem_of_getElem? (i := 813) (by decide +kernel), List.mem_of_getElem? (i := 953) (by decide +kernel), List.mem_of_getElem? (i := 954) (by decide +kernel)⟩
theorem lw_p3 : lw_okq (⟨"ShadowCountModel", "readBodyPart", "()V"⟩, 37) := ⟨⟨by decide +kernel, by decide +kernel⟩, List.mem_of_getElem? (i := 813) (by decide +kernel), List.mem_of_getElem? (i := 957) (by decide +kernel), List.mem_of_getElem? (i := 958) (by decide +kernel)⟩
theorem lw_p4 : lw_okq (⟨"ShadowCountModel", "fail", "()V"⟩, 37) := ⟨⟨by decide +kernel, by decide +kernel⟩, List.mem_of_getElem? (i := 813) (by decide +kernel), List.mem_of_getElem? (i := 964) (by decide +kernel), List.mem_of_getElem? (i := 965) (by decide +kernel)⟩
theorem lw_p5 : lw_okq (⟨"ShadowCountModel", "freeRows", "(I)I"⟩, 37) := ⟨⟨by decide +kernel, by decide +kernel⟩, List.mem_of_getElem? (i := 813) (by decide +kernel), List.mem_of_getElem? (i := 968) (by decide +kernel), List.mem_of_getElem? (i := 969) (by decide +kernel)⟩
theorem lw_p6 : lw_okq (⟨"ShadowCountModel", "sign", "(I)I"⟩, 37) := ⟨⟨by decide +kernel, by decide +kernel⟩, List.mem_of_getElem? (i := 813) (by decide +kernel), List.mem_of_getElem? (i := 972) (by decide +kernel), List.mem_of_getElem? (i := 973) (by decide +kernel)⟩
theorem lw_p7 : lw_okq (⟨"ShadowCountModel", "untold", "()I"⟩, 37) := ⟨⟨by decide +kernel, by decide +kernel⟩, List.mem_of_getElem? (i := 813) (by decide +kernel), List.mem_of_getElem? (i := 983) (by decide +kernel), List.mem_of_getElem? (i := 984) (by decide +kernel)⟩
theorem lw_p8 : lw_okq (⟨"ShadowCountModel", "isBody", "(I)Z"⟩, 37) := ⟨⟨by decide +kernel, by decide +kernel⟩, List.mem_of_getElem? (i := 813) (by decide +kernel), List.mem_of_getElem? (i := 996) (by decide +kernel), List.mem_of_getElem? (i := 997) (by decide +kernel)⟩
theorem lw_p9 : lw_okq (⟨"ShadowCountModel", "isHill", "(I)Z"⟩, 37) := ⟨⟨by decide +kernel, by decide +kernel⟩, List.mem_of_getElem? (i := 813) (by decide +kernel), List.mem_of_getElem? (i := 1010) (by decide +kernel), List.mem_of_getElem? (i := 1011) (by decide +kernel)⟩
theorem lw_p10 : lw_okq (⟨"ShadowCountModel", "isTaken", "(II)Z"⟩, 37) := ⟨⟨by decide +kernel, by decide +kernel⟩, List.mem_of_getElem? (i := 813) (by decide +kernel), List.mem_of_getElem? (i := 1024) (by decide +kernel), List.mem_of_getElem? (i := 1025) (by decide +kernel)⟩
theorem lw_p11 : lw_okq (⟨"ShadowCountModel", "keepAct", "()V"⟩, 37) := ⟨⟨by decide +kernel, by decide +kernel⟩, List.mem_of_getElem? (i := 813) (by decide +kernel), List.mem_of_getElem? (i := 1028) (by decide +kernel), List.mem_of_getElem? (i := 1029) (by decide +kernel)⟩
theorem lw_p12 : lw_okq (⟨"ShadowCountModel", "darkOf", "(II)I"⟩, 37) := ⟨⟨by decide +kernel, by decide +kernel⟩, List.mem_of_getElem? (i := 813) (by decide +kernel), List.mem_of_getElem? (i := 1062) (by decide +kernel), List.mem_of_getElem? (i := 1063) (by decide +kernel)⟩
theorem lw_p13 : lw_okq (⟨"ShadowCountModel", "lit", "(II)I"⟩, 37) := ⟨⟨by decide +kernel, by decide +kernel⟩, List.mem_of_getElem? (i := 813) (by decide +kernel), List.mem_of_getElem? (i := 1069) (by decide +kernel), List.mem_of_getElem? (i := 1070) (by decide +kernel)⟩
theorem lw_p14 : lw_okq (⟨"ShadowCountModel", "layRuns", "(II)I"⟩, 37) := ⟨⟨by decide +kernel, by decide +kernel⟩, List.mem_of_getElem? (i := 813) (by decide +kernel), List.mem_of_getElem? (i := 1077) (by decide +kernel), List.mem_of_getElem? (i := 1078) (by decide +kernel)⟩
theorem lw_p15 : lw_okq (⟨"ShadowCountModel", "countedOf", "(II)I"⟩, 37) := ⟨⟨by decide +kernel, by decide +kernel⟩, List.mem_of_getElem? (i := 813) (by decide +kernel), List.mem_of_getElem? (i := 1094) (by decide +kernel), List.mem_of_getElem? (i := 1095) (by decide +kernel)⟩
def lw_privs_1 : List (MethodName × Nat) := [(⟨"ShadowCount", "countByRule", "(II)I"⟩, 8), (⟨"ShadowCountModel", "readText", "()I"⟩, 37), (⟨"ShadowCountModel", "readPart", "(I)V"⟩, 37), (⟨"ShadowCountModel", "readBodyPart", "()V"⟩, 37), (⟨"ShadowCountModel", "fail", "()V"⟩, 37), (⟨"ShadowCountModel", "freeRows", "(I)I"⟩, 37), (⟨"ShadowCountModel", "sign", "(I)I"⟩, 37), (⟨"ShadowCountModel", "untold", "()I"⟩, 37), (⟨"ShadowCountModel", "isBody", "(I)Z"⟩, 37), (⟨"ShadowCountModel", "isHill", "(I)Z"⟩, 37), (⟨"ShadowCountModel", "isTaken", "(II)Z"⟩, 37), (⟨"ShadowCountModel", "keepAct", "()V"⟩, 37), (⟨"ShadowCountModel", "darkOf", "(II)I"⟩, 37), (⟨"ShadowCountModel", "lit", "(II)I"⟩, 37), (⟨"ShadowCountModel", "layRuns", "(II)I"⟩, 37), (⟨"ShadowCountModel", "countedOf", "(II)I"⟩, 37)]
theorem lw_r1 : ∀ q ∈ lw_privs_1, lw_okq q := List.forall_mem_cons.mpr ⟨lw_p0, List.forall_mem_cons.mpr ⟨lw_p1, List.forall_mem_cons.mpr ⟨lw_p2, List.forall_mem_cons.mpr ⟨lw_p3, List.forall_mem_cons.mpr ⟨lw_p4, List.forall_mem_cons.mpr ⟨lw_p5, List.forall_mem_cons.mpr ⟨lw_p6, List.forall_mem_cons.mpr ⟨lw_p7, List.forall_mem_cons.mpr ⟨lw_p8, List.forall_mem_cons.mpr ⟨lw_p9, List.forall_mem_cons.mpr ⟨lw_p10, List.forall_mem_cons.mpr ⟨lw_p11, List.forall_mem_cons.mpr ⟨lw_p12, List.forall_mem_cons.mpr ⟨lw_p13, List.forall_mem_cons.mpr ⟨lw_p14, List.forall_mem_cons.mpr ⟨lw_p15, fun _ h => absurd h List.not_mem_nil⟩⟩⟩⟩⟩⟩⟩⟩⟩⟩⟩⟩⟩⟩⟩⟩
theorem lw_p16 : lw_okq (⟨"ShadowCountModel", "counts", "()I"⟩, 37) := ⟨⟨by decide +kernel, by decide +kernel⟩, List.mem_of_getElem? (i := 813) (by decide +kernel), List.mem_of_getElem? (i := 1102) (by decide +kernel), List.mem_of_getElem? (i := 1103) (by decide +kernel)⟩
theorem lw_p17 : lw_okq (⟨"ShadowCountModel", "isHidden", "(III)Z"⟩, 37) := ⟨⟨by decide +kernel, by decide +kernel⟩, List.mem_of_getElem? (i := 813) (by decide +kernel), List.mem_of_getElem? (i := 1110) (by decide +kernel), List.mem_of_getElem? (i := 1111) (by decide +kernel)⟩
theorem lw_p18 : lw_okq (⟨"ShadowCountModel", "layFits", "(Z)V"⟩, 37) := ⟨⟨by decide +kernel, by decide +kernel⟩, List.mem_of_getElem? (i := 813) (by decide +kernel), List.mem_of_getElem? (i := 1127) (by decide +kernel), List.mem_of_getElem? (i := 1128) (by decide +kernel)⟩
theorem lw_p19 : lw_okq (⟨"ShadowCountModel", "isFit", "(I)Z"⟩, 37) := ⟨⟨by decide +kernel, by decide +kernel⟩, List.mem_of_getElem? (i := 813) (by decide +kernel), List.mem_of_getElem? (i := 1132) (by decide +kernel), List.mem_of_getElem? (i := 1133) (by decide +kernel)⟩
theorem lw_p20 : lw_okq (⟨"ShadowCountModel", "rowDark", "(II)I"⟩, 37) := ⟨⟨by decide +kernel, by decide +kernel⟩, List.mem_of_getElem? (i := 813) (by decide +kernel), List.mem_of_getElem? (i := 1136) (by decide +kernel), List.mem_of_getElem? (i := 1137) (by decide +kernel)⟩
theorem lw_p21 : lw_okq (⟨"ShadowCountModel", "layFit", "(I)V"⟩, 37) := ⟨⟨by decide +kernel, by decide +kernel⟩, List.mem_of_getElem? (i := 813) (by decide +kernel), List.mem_of_getElem? (i := 1140) (by decide +kernel), List.mem_of_getElem? (i := 1141) (by decide +kernel)⟩
def lw_privs_2 : List (MethodName × Nat) := [(⟨"ShadowCountModel", "counts", "()I"⟩, 37), (⟨"ShadowCountModel", "isHidden", "(III)Z"⟩, 37), (⟨"ShadowCountModel", "layFits", "(Z)V"⟩, 37), (⟨"ShadowCountModel", "isFit", "(I)Z"⟩, 37), (⟨"ShadowCountModel", "rowDark", "(II)I"⟩, 37), (⟨"ShadowCountModel", "layFit", "(I)V"⟩, 37)]
theorem lw_r2 : ∀ q ∈ lw_privs_2, lw_okq q := List.forall_mem_cons.mpr ⟨lw_p16, List.forall_mem_cons.mpr ⟨lw_p17, List.forall_mem_cons.mpr ⟨lw_p18, List.forall_mem_cons.mpr ⟨lw_p19, List.forall_mem_cons.mpr ⟨lw_p20, List.forall_mem_cons.mpr ⟨lw_p21, fun _ h => absurd h List.not_mem_nil⟩⟩⟩⟩⟩⟩
def lw_privs : List (MethodName × Nat) := lw_privs_1 ++ (lw_privs_2)
def lw_tbl : List Cond := k2_sels lw_privs ++ tables_1
theorem lw_privs_ok : ∀ q ∈ lw_privs, lw_okq q := by
  show ∀ q ∈ lw_privs_1 ++ (lw_privs_2), lw_okq q
  exact List.forall_mem_append.mpr ⟨lw_r1, lw_r2⟩

def RX0 : String := "ShadowCount$Acts"
def TX0 : u_T := fun k => match k with
  | 0 => ("ShadowCount$Acts", "sort", "[I", true)
  | 1 => ("ShadowCount$Acts", "body", "[I", true)
  | 2 => ("ShadowCount$Acts", "kind", "[I", true)
  | 3 => ("ShadowCount$Acts", "x", "[I", true)
  | 4 => ("ShadowCount$Acts", "y", "[I", true)
  | 5 => ("ShadowCount$Acts", "oldest", "I", false)
  | _ => ("ShadowCount$Acts", "size", "I", false)
def tyX0 : Nat → FieldType := fun k => match k with
  | 0 => .array .int
  | 1 => .array .int
  | 2 => .array .int
  | 3 => .array .int
  | 4 => .array .int
  | 5 => .int
  | _ => .int
abbrev wsX00 : List Cond := u_ws RX0 TX0 7
theorem nmX0 : ∀ a, a < 7 → ∀ b, b < 7 → a ≠ b → (TX0 a).2.1 ≠ (TX0 b).2.1 := by decide +kernel
theorem tyX0_ok : ∀ k, k < 7 → parseFieldDescriptor (TX0 k).2.2.1 = some (tyX0 k) := by decide +kernel
abbrev cX0_init : ByteArray := prog_2_method_1_code
def yX0_init : MethodName := ⟨RX0, "<init>", "()V"⟩
abbrev cX0_forget : ByteArray := prog_2_method_2_code
def yX0_forget : MethodName := ⟨RX0, "forget", "()V"⟩
abbrev cX0_remember : ByteArray := prog_2_method_3_code
def yX0_remember : MethodName := ⟨RX0, "remember", "(IILShadowCount$Bodies;)V"⟩
abbrev cX0_undo : ByteArray := prog_2_method_4_code
def yX0_undo : MethodName := ⟨RX0, "undo", "(LShadowCount$Bodies;)V"⟩
def RX1 : String := "ShadowCount$Bodies"
def TX1 : u_T := fun k => match k with
  | 0 => ("ShadowCount$Bodies", "kind", "[I", true)
  | 1 => ("ShadowCount$Bodies", "x", "[I", true)
  | 2 => ("ShadowCount$Bodies", "y", "[I", true)
  | _ => ("ShadowCount$Bodies", "size", "I", false)
def tyX1 : Nat → FieldType := fun k => match k with
  | 0 => .array .int
  | 1 => .array .int
  | 2 => .array .int
  | _ => .int
abbrev wsX10 : List Cond := u_ws RX1 TX1 4
theorem nmX1 : ∀ a, a < 4 → ∀ b, b < 4 → a ≠ b → (TX1 a).2.1 ≠ (TX1 b).2.1 := by decide +kernel
theorem tyX1_ok : ∀ k, k < 4 → parseFieldDescriptor (TX1 k).2.2.1 = some (tyX1 k) := by decide +kernel
abbrev cX1_init : ByteArray := prog_3_method_1_code
def yX1_init : MethodName := ⟨RX1, "<init>", "()V"⟩
abbrev cX1_has : ByteArray := prog_3_method_2_code
def yX1_has : MethodName := ⟨RX1, "has", "(I)Z"⟩
abbrev cX1_height : ByteArray := prog_3_method_3_code
def yX1_height : MethodName := ⟨RX1, "height", "(I)I"⟩
abbrev cX1_heads : ByteArray := prog_3_method_4_code
def yX1_heads : MethodName := ⟨RX1, "heads", "(I)I"⟩
abbrev cX1_allHeads : ByteArray := prog_3_method_5_code
def yX1_allHeads : MethodName := ⟨RX1, "allHeads", "()I"⟩
abbrev cX1_standsAt : ByteArray := prog_3_method_6_code
def yX1_standsAt : MethodName := ⟨RX1, "standsAt", "(II)Z"⟩
abbrev cX1_inColumn : ByteArray := prog_3_method_7_code
def yX1_inColumn : MethodName := ⟨RX1, "inColumn", "(I)I"⟩
abbrev cX1_insert : ByteArray := prog_3_method_8_code
def yX1_insert : MethodName := ⟨RX1, "insert", "(IIII)V"⟩
abbrev cX1_remove : ByteArray := prog_3_method_9_code
def yX1_remove : MethodName := ⟨RX1, "remove", "(I)V"⟩
abbrev cX1_renumber : ByteArray := prog_3_method_10_code
def yX1_renumber : MethodName := ⟨RX1, "renumber", "(II)V"⟩
abbrev cX1_copyFrom : ByteArray := prog_3_method_11_code
def yX1_copyFrom : MethodName := ⟨RX1, "copyFrom", "(LShadowCount$Bodies;)V"⟩
def RX2 : String := "ShadowCount$Field"
def TX2 : u_T := fun k => match k with
  | 0 => ("ShadowCount$Field", "bodies", "LShadowCount$Bodies;", true)
  | _ => ("ShadowCount$Field", "ground", "LShadowCount$Ground;", true)
def tyX2 : Nat → FieldType := fun k => match k with
  | 0 => .object "ShadowCount$Bodies"
  | _ => .object "ShadowCount$Ground"
abbrev wsX20 : List Cond := u_ws RX2 TX2 2
theorem nmX2 : ∀ a, a < 2 → ∀ b, b < 2 → a ≠ b → (TX2 a).2.1 ≠ (TX2 b).2.1 := by decide +kernel
theorem tyX2_ok : ∀ k, k < 2 → parseFieldDescriptor (TX2 k).2.2.1 = some (tyX2 k) := by decide +kernel
abbrev cX2_init : ByteArray := prog_4_method_1_code
def yX2_init : MethodName := ⟨RX2, "<init>", "()V"⟩
abbrev cX2_clear : ByteArray := prog_4_method_2_code
def yX2_clear : MethodName := ⟨RX2, "clear", "()V"⟩
abbrev cX2_copyFrom : ByteArray := prog_4_method_3_code
def yX2_copyFrom : MethodName := ⟨RX2, "copyFrom", "(LShadowCount$Field;)V"⟩
abbrev cX2_darkCells : ByteArray := prog_4_method_4_code
def yX2_darkCells : MethodName := ⟨RX2, "darkCells", "(II)I"⟩
abbrev cX2_darkCellsOf : ByteArray := prog_4_method_5_code
def yX2_darkCellsOf : MethodName := ⟨RX2, "darkCellsOf", "(II)I"⟩
abbrev cX2_lonely : ByteArray := prog_4_method_6_code
def yX2_lonely : MethodName := ⟨RX2, "lonely", "(I)I"⟩
abbrev cX2_isLonely : ByteArray := prog_4_method_7_code
def yX2_isLonely : MethodName := ⟨RX2, "isLonely", "(II)Z"⟩
abbrev cX2_hiddenCell : ByteArray := prog_4_method_8_code
def yX2_hiddenCell : MethodName := ⟨RX2, "hiddenCell", "(I)I"⟩
abbrev cX2_watchedCells : ByteArray := prog_4_method_9_code
def yX2_watchedCells : MethodName := ⟨RX2, "watchedCells", "(I)I"⟩
def RX3 : String := "ShadowCount$Fits"
def TX3 : u_T := fun k => match k with
  | 0 => ("ShadowCount$Fits", "child", "[J", true)
  | 1 => ("ShadowCount$Fits", "man", "[J", true)
  | 2 => ("ShadowCount$Fits", "choices", "[I", true)
  | 3 => ("ShadowCount$Fits", "darkFrom", "[J", true)
  | 4 => ("ShadowCount$Fits", "waysFrom", "[I", true)
  | 5 => ("ShadowCount$Fits", "childReach", "[I", true)
  | 6 => ("ShadowCount$Fits", "manReach", "[I", true)
  | _ => ("ShadowCount$Fits", "wanted", "J", false)
def tyX3 : Nat → FieldType := fun k => match k with
  | 0 => .array .long
  | 1 => .array .long
  | 2 => .array .int
  | 3 => .array .long
  | 4 => .array .int
  | 5 => .array .int
  | 6 => .array .int
  | _ => .long
abbrev wsX30 : List Cond := u_ws RX3 TX3 8
theorem nmX3 : ∀ a, a < 8 → ∀ b, b < 8 → a ≠ b → (TX3 a).2.1 ≠ (TX3 b).2.1 := by decide +kernel
theorem tyX3_ok : ∀ k, k < 8 → parseFieldDescriptor (TX3 k).2.2.1 = some (tyX3 k) := by decide +kernel
abbrev cX3_init : ByteArray := prog_5_method_1_code
def yX3_init : MethodName := ⟨RX3, "<init>", "()V"⟩
abbrev cX3_prepare : ByteArray := prog_5_method_2_code
def yX3_prepare : MethodName := ⟨RX3, "prepare", "(LShadowCount$Sights;)V"⟩
abbrev cX3_shadowsOf : ByteArray := prog_5_method_3_code
def yX3_shadowsOf : MethodName := ⟨RX3, "shadowsOf", "(IILShadowCount$Sights;)J"⟩
abbrev cX3_mayStand : ByteArray := prog_5_method_4_code
def yX3_mayStand : MethodName := ⟨RX3, "mayStand", "(J)Z"⟩
abbrev cX3_tallest : ByteArray := prog_5_method_5_code
def yX3_tallest : MethodName := ⟨RX3, "tallest", "(I)J"⟩
abbrev cX3_exist : ByteArray := prog_5_method_6_code
def yX3_exist : MethodName := ⟨RX3, "exist", "()Z"⟩
abbrev cX3_number : ByteArray := prog_5_method_7_code
def yX3_number : MethodName := ⟨RX3, "number", "()I"⟩
abbrev cX3_waysToFill : ByteArray := prog_5_method_8_code
def yX3_waysToFill : MethodName := ⟨RX3, "waysToFill", "(LShadowCount$Fits;IJ)I"⟩
abbrev cX3_mostHeads : ByteArray := prog_5_method_9_code
def yX3_mostHeads : MethodName := ⟨RX3, "mostHeads", "()I"⟩
abbrev cX3_fewestHeads : ByteArray := prog_5_method_10_code
def yX3_fewestHeads : MethodName := ⟨RX3, "fewestHeads", "()I"⟩
abbrev cX3_fewestFrom : ByteArray := prog_5_method_11_code
def yX3_fewestFrom : MethodName := ⟨RX3, "fewestFrom", "(LShadowCount$Fits;IJ)I"⟩
abbrev cX3_surelyTaken : ByteArray := prog_5_method_12_code
def yX3_surelyTaken : MethodName := ⟨RX3, "surelyTaken", "()I"⟩
abbrev cX3_darkWithout : ByteArray := prog_5_method_13_code
def yX3_darkWithout : MethodName := ⟨RX3, "darkWithout", "(I)J"⟩
abbrev cX3_tellingMinute : ByteArray := prog_5_method_14_code
def yX3_tellingMinute : MethodName := ⟨RX3, "tellingMinute", "()I"⟩
abbrev cX3_unlikeRows : ByteArray := prog_5_method_15_code
def yX3_unlikeRows : MethodName := ⟨RX3, "unlikeRows", "(I)I"⟩
abbrev cX3_mayShow : ByteArray := prog_5_method_16_code
def yX3_mayShow : MethodName := ⟨RX3, "mayShow", "(I)Z"⟩
def RX4 : String := "ShadowCount$Ground"
def TX4 : u_T := fun k => match k with
  | 0 => ("ShadowCount$Ground", "hills", "[[I", true)
  | 1 => ("ShadowCount$Ground", "clouds", "[[I", true)
  | 2 => ("ShadowCount$Ground", "sunFrom", "[I", true)
  | 3 => ("ShadowCount$Ground", "hillCount", "I", false)
  | 4 => ("ShadowCount$Ground", "cloudCount", "I", false)
  | _ => ("ShadowCount$Ground", "cliffRows", "I", false)
def tyX4 : Nat → FieldType := fun k => match k with
  | 0 => .array (.array .int)
  | 1 => .array (.array .int)
  | 2 => .array .int
  | 3 => .int
  | 4 => .int
  | _ => .int
abbrev wsX40 : List Cond := u_ws RX4 TX4 6
theorem nmX4 : ∀ a, a < 6 → ∀ b, b < 6 → a ≠ b → (TX4 a).2.1 ≠ (TX4 b).2.1 := by decide +kernel
theorem tyX4_ok : ∀ k, k < 6 → parseFieldDescriptor (TX4 k).2.2.1 = some (tyX4 k) := by decide +kernel
abbrev cX4_init : ByteArray := prog_6_method_1_code
def yX4_init : MethodName := ⟨RX4, "<init>", "()V"⟩
abbrev cX4_clear : ByteArray := prog_6_method_2_code
def yX4_clear : MethodName := ⟨RX4, "clear", "()V"⟩
abbrev cX4_hasHill : ByteArray := prog_6_method_3_code
def yX4_hasHill : MethodName := ⟨RX4, "hasHill", "(I)Z"⟩
abbrev cX4_hasCliff : ByteArray := prog_6_method_4_code
def yX4_hasCliff : MethodName := ⟨RX4, "hasCliff", "(I)Z"⟩
abbrev cX4_addHill : ByteArray := prog_6_method_5_code
def yX4_addHill : MethodName := ⟨RX4, "addHill", "([I)V"⟩
abbrev cX4_addCloud : ByteArray := prog_6_method_6_code
def yX4_addCloud : MethodName := ⟨RX4, "addCloud", "([I)V"⟩
abbrev cX4_addCliff : ByteArray := prog_6_method_7_code
def yX4_addCliff : MethodName := ⟨RX4, "addCliff", "(II)V"⟩
abbrev cX4_sunnyCells : ByteArray := prog_6_method_8_code
def yX4_sunnyCells : MethodName := ⟨RX4, "sunnyCells", "(II)I"⟩
abbrev cX4_view : ByteArray := prog_6_method_9_code
def yX4_view : MethodName := ⟨RX4, "view", "(II)I"⟩
abbrev cX4_copyFrom : ByteArray := prog_6_method_10_code
def yX4_copyFrom : MethodName := ⟨RX4, "copyFrom", "(LShadowCount$Ground;)V"⟩
abbrev cX4_copyFour : ByteArray := prog_6_method_11_code
def yX4_copyFour : MethodName := ⟨RX4, "copyFour", "([I[I)V"⟩
def RX5 : String := "ShadowCount$Reader"
def TX5 : u_T := fun k => match k with
  | 0 => ("ShadowCount$Reader", "draft", "LShadowCount$Field;", true)
  | 1 => ("ShadowCount$Reader", "told", "[I", true)
  | 2 => ("ShadowCount$Reader", "toldCount", "I", false)
  | 3 => ("ShadowCount$Reader", "part", "I", false)
  | _ => ("ShadowCount$Reader", "begun", "Z", false)
def tyX5 : Nat → FieldType := fun k => match k with
  | 0 => .object "ShadowCount$Field"
  | 1 => .array .int
  | 2 => .int
  | 3 => .int
  | _ => .boolean
abbrev wsX50 : List Cond := u_ws RX5 TX5 5
theorem nmX5 : ∀ a, a < 5 → ∀ b, b < 5 → a ≠ b → (TX5 a).2.1 ≠ (TX5 b).2.1 := by decide +kernel
theorem tyX5_ok : ∀ k, k < 5 → parseFieldDescriptor (TX5 k).2.2.1 = some (tyX5 k) := by decide +kernel
abbrev cX5_init : ByteArray := prog_7_method_1_code
def yX5_init : MethodName := ⟨RX5, "<init>", "()V"⟩
abbrev cX5_firstFault : ByteArray := prog_7_method_2_code
def yX5_firstFault : MethodName := ⟨RX5, "firstFault", "(LShadowCount$Text;)I"⟩
abbrev cX5_accepts : ByteArray := prog_7_method_3_code
def yX5_accepts : MethodName := ⟨RX5, "accepts", "(I)Z"⟩
abbrev cX5_opensPart : ByteArray := prog_7_method_4_code
def yX5_opensPart : MethodName := ⟨RX5, "opensPart", "(I)Z"⟩
abbrev cX5_signsOfPart : ByteArray := prog_7_method_5_code
def yX5_signsOfPart : MethodName := ⟨RX5, "signsOfPart", "()I"⟩
abbrev cX5_allows : ByteArray := prog_7_method_6_code
def yX5_allows : MethodName := ⟨RX5, "allows", "(I)Z"⟩
abbrev cX5_allowsForBody : ByteArray := prog_7_method_7_code
def yX5_allowsForBody : MethodName := ⟨RX5, "allowsForBody", "(I)Z"⟩
abbrev cX5_allowsForCliff : ByteArray := prog_7_method_8_code
def yX5_allowsForCliff : MethodName := ⟨RX5, "allowsForCliff", "(I)Z"⟩
abbrev cX5_allowsInRange : ByteArray := prog_7_method_9_code
def yX5_allowsInRange : MethodName := ⟨RX5, "allowsInRange", "(II)Z"⟩
abbrev cX5_endPart : ByteArray := prog_7_method_10_code
def yX5_endPart : MethodName := ⟨RX5, "endPart", "()V"⟩
abbrev cX5_valueOf : ByteArray := prog_7_method_11_code
def yX5_valueOf : MethodName := ⟨RX5, "valueOf", "(I)I"⟩
def RX6 : String := "ShadowCount$Runs"
def TX6 : u_T := fun k => match k with
  | 0 => ("ShadowCount$Runs", "row", "[I", true)
  | 1 => ("ShadowCount$Runs", "first", "[I", true)
  | 2 => ("ShadowCount$Runs", "length", "[I", true)
  | _ => ("ShadowCount$Runs", "size", "I", false)
def tyX6 : Nat → FieldType := fun k => match k with
  | 0 => .array .int
  | 1 => .array .int
  | 2 => .array .int
  | _ => .int
abbrev wsX60 : List Cond := u_ws RX6 TX6 4
theorem nmX6 : ∀ a, a < 4 → ∀ b, b < 4 → a ≠ b → (TX6 a).2.1 ≠ (TX6 b).2.1 := by decide +kernel
theorem tyX6_ok : ∀ k, k < 4 → parseFieldDescriptor (TX6 k).2.2.1 = some (tyX6 k) := by decide +kernel
abbrev cX6_init : ByteArray := prog_8_method_1_code
def yX6_init : MethodName := ⟨RX6, "<init>", "()V"⟩
abbrev cX6_look : ByteArray := prog_8_method_2_code
def yX6_look : MethodName := ⟨RX6, "look", "(LShadowCount$Field;II)V"⟩
abbrev cX6_addRunsOf : ByteArray := prog_8_method_3_code
def yX6_addRunsOf : MethodName := ⟨RX6, "addRunsOf", "(II)V"⟩
abbrev cX6_add : ByteArray := prog_8_method_4_code
def yX6_add : MethodName := ⟨RX6, "add", "(III)V"⟩
abbrev cX6_headsByRule : ByteArray := prog_8_method_5_code
def yX6_headsByRule : MethodName := ⟨RX6, "headsByRule", "(I)I"⟩
abbrev cX6_headsOfRun : ByteArray := prog_8_method_6_code
def yX6_headsOfRun : MethodName := ⟨RX6, "headsOfRun", "(II)I"⟩
def RX7 : String := "ShadowCount$Sights"
def TX7 : u_T := fun k => match k with
  | 0 => ("ShadowCount$Sights", "minute", "[I", true)
  | 1 => ("ShadowCount$Sights", "cells", "[I", true)
  | _ => ("ShadowCount$Sights", "size", "I", false)
def tyX7 : Nat → FieldType := fun k => match k with
  | 0 => .array .int
  | 1 => .array .int
  | _ => .int
abbrev wsX70 : List Cond := u_ws RX7 TX7 3
theorem nmX7 : ∀ a, a < 3 → ∀ b, b < 3 → a ≠ b → (TX7 a).2.1 ≠ (TX7 b).2.1 := by decide +kernel
theorem tyX7_ok : ∀ k, k < 3 → parseFieldDescriptor (TX7 k).2.2.1 = some (tyX7 k) := by decide +kernel
abbrev cX7_init : ByteArray := prog_9_method_1_code
def yX7_init : MethodName := ⟨RX7, "<init>", "()V"⟩
abbrev cX7_add : ByteArray := prog_9_method_2_code
def yX7_add : MethodName := ⟨RX7, "add", "(II)V"⟩
abbrev cX7_copyFrom : ByteArray := prog_9_method_3_code
def yX7_copyFrom : MethodName := ⟨RX7, "copyFrom", "(LShadowCount$Sights;)V"⟩
def RX8 : String := "ShadowCount$Slot"
def TX8 : u_T := fun k => match k with
  | 0 => ("ShadowCount$Slot", "bodies", "LShadowCount$Bodies;", true)
  | 1 => ("ShadowCount$Slot", "sights", "LShadowCount$Sights;", true)
  | _ => ("ShadowCount$Slot", "filled", "Z", false)
def tyX8 : Nat → FieldType := fun k => match k with
  | 0 => .object "ShadowCount$Bodies"
  | 1 => .object "ShadowCount$Sights"
  | _ => .boolean
abbrev wsX80 : List Cond := u_ws RX8 TX8 3
theorem nmX8 : ∀ a, a < 3 → ∀ b, b < 3 → a ≠ b → (TX8 a).2.1 ≠ (TX8 b).2.1 := by decide +kernel
theorem tyX8_ok : ∀ k, k < 3 → parseFieldDescriptor (TX8 k).2.2.1 = some (tyX8 k) := by decide +kernel
abbrev cX8_init : ByteArray := prog_10_method_1_code
def yX8_init : MethodName := ⟨RX8, "<init>", "()V"⟩
def RX9 : String := "ShadowCount$Text"
def TX9 : u_T := fun k => match k with
  | 0 => ("ShadowCount$Text", "bytes", "[B", true)
  | _ => ("ShadowCount$Text", "size", "I", false)
def tyX9 : Nat → FieldType := fun k => match k with
  | 0 => .array .byte
  | _ => .int
abbrev wsX90 : List Cond := u_ws RX9 TX9 2
theorem nmX9 : ∀ a, a < 2 → ∀ b, b < 2 → a ≠ b → (TX9 a).2.1 ≠ (TX9 b).2.1 := by decide +kernel
theorem tyX9_ok : ∀ k, k < 2 → parseFieldDescriptor (TX9 k).2.2.1 = some (tyX9 k) := by decide +kernel
abbrev cX9_init : ByteArray := prog_11_method_1_code
def yX9_init : MethodName := ⟨RX9, "<init>", "()V"⟩
abbrev cX9_add : ByteArray := prog_11_method_2_code
def yX9_add : MethodName := ⟨RX9, "add", "(I)V"⟩
def RX10 : String := "ShadowCount"
def TX10 : u_T := fun k => match k with
  | 0 => ("ShadowCount", "text", "LShadowCount$Text;", true)
  | 1 => ("ShadowCount", "reader", "LShadowCount$Reader;", true)
  | 2 => ("ShadowCount", "field", "LShadowCount$Field;", true)
  | 3 => ("ShadowCount", "acts", "LShadowCount$Acts;", true)
  | 4 => ("ShadowCount", "seen", "LShadowCount$Runs;", true)
  | 5 => ("ShadowCount", "sights", "LShadowCount$Sights;", true)
  | 6 => ("ShadowCount", "rows", "LShadowCount$Fits;", true)
  | _ => ("ShadowCount", "slots", "[LShadowCount$Slot;", true)
def tyX10 : Nat → FieldType := fun k => match k with
  | 0 => .object "ShadowCount$Text"
  | 1 => .object "ShadowCount$Reader"
  | 2 => .object "ShadowCount$Field"
  | 3 => .object "ShadowCount$Acts"
  | 4 => .object "ShadowCount$Runs"
  | 5 => .object "ShadowCount$Sights"
  | 6 => .object "ShadowCount$Fits"
  | _ => .array (.object "ShadowCount$Slot")
abbrev wsX100 : List Cond := u_ws RX10 TX10 8
theorem nmX10 : ∀ a, a < 8 → ∀ b, b < 8 → a ≠ b → (TX10 a).2.1 ≠ (TX10 b).2.1 := by decide +kernel
theorem tyX10_ok : ∀ k, k < 8 → parseFieldDescriptor (TX10 k).2.2.1 = some (tyX10 k) := by decide +kernel
abbrev cX10_init : ByteArray := prog_1_method_1_code
def yX10_init : MethodName := ⟨RX10, "<init>", "()V"⟩
abbrev cX10_write : ByteArray := prog_1_method_2_code
def yX10_write : MethodName := ⟨RX10, "write", "(IJ)I"⟩
abbrev cX10_wipe : ByteArray := prog_1_method_3_code
def yX10_wipe : MethodName := ⟨RX10, "wipe", "()I"⟩
abbrev cX10_fault : ByteArray := prog_1_method_4_code
def yX10_fault : MethodName := ⟨RX10, "fault", "()I"⟩
abbrev cX10_place : ByteArray := prog_1_method_5_code
def yX10_place : MethodName := ⟨RX10, "place", "()I"⟩
abbrev cX10_body : ByteArray := prog_1_method_6_code
def yX10_body : MethodName := ⟨RX10, "body", "(II)I"⟩
abbrev cX10_hill : ByteArray := prog_1_method_7_code
def yX10_hill : MethodName := ⟨RX10, "hill", "(II)I"⟩
abbrev cX10_put : ByteArray := prog_1_method_8_code
def yX10_put : MethodName := ⟨RX10, "put", "(III)I"⟩
abbrev cX10_move : ByteArray := prog_1_method_9_code
def yX10_move : MethodName := ⟨RX10, "move", "(III)I"⟩
abbrev cX10_take : ByteArray := prog_1_method_10_code
def yX10_take : MethodName := ⟨RX10, "take", "(I)I"⟩
abbrev cX10_back : ByteArray := prog_1_method_11_code
def yX10_back : MethodName := ⟨RX10, "back", "()I"⟩
abbrev cX10_shadow : ByteArray := prog_1_method_12_code
def yX10_shadow : MethodName := ⟨RX10, "shadow", "(II)I"⟩
abbrev cX10_dark : ByteArray := prog_1_method_13_code
def yX10_dark : MethodName := ⟨RX10, "dark", "(II)I"⟩
abbrev cX10_runs : ByteArray := prog_1_method_14_code
def yX10_runs : MethodName := ⟨RX10, "runs", "(II)I"⟩
abbrev cX10_run : ByteArray := prog_1_method_15_code
def yX10_run : MethodName := ⟨RX10, "run", "(IIII)I"⟩
abbrev cX10_alone : ByteArray := prog_1_method_16_code
def yX10_alone : MethodName := ⟨RX10, "alone", "(I)I"⟩
abbrev cX10_counted : ByteArray := prog_1_method_17_code
def yX10_counted : MethodName := ⟨RX10, "counted", "(II)I"⟩
abbrev cX10_best : ByteArray := prog_1_method_18_code
def yX10_best : MethodName := ⟨RX10, "best", "(I)I"⟩
abbrev cX10_hide : ByteArray := prog_1_method_19_code
def yX10_hide : MethodName := ⟨RX10, "hide", "(I)I"⟩
abbrev cX10_sight : ByteArray := prog_1_method_20_code
def yX10_sight : MethodName := ⟨RX10, "sight", "(II)I"⟩
abbrev cX10_unsee : ByteArray := prog_1_method_21_code
def yX10_unsee : MethodName := ⟨RX10, "unsee", "()I"⟩
abbrev cX10_fits : ByteArray := prog_1_method_22_code
def yX10_fits : MethodName := ⟨RX10, "fits", "()I"⟩
abbrev cX10_people : ByteArray := prog_1_method_23_code
def yX10_people : MethodName := ⟨RX10, "people", "(Z)I"⟩
abbrev cX10_sure : ByteArray := prog_1_method_24_code
def yX10_sure : MethodName := ⟨RX10, "sure", "()I"⟩
abbrev cX10_next : ByteArray := prog_1_method_25_code
def yX10_next : MethodName := ⟨RX10, "next", "()I"⟩
abbrev cX10_keep : ByteArray := prog_1_method_26_code
def yX10_keep : MethodName := ⟨RX10, "keep", "(I)I"⟩
abbrev cX10_again : ByteArray := prog_1_method_27_code
def yX10_again : MethodName := ⟨RX10, "again", "(I)I"⟩
abbrev cX10_count : ByteArray := prog_1_method_28_code
def yX10_count : MethodName := ⟨RX10, "count", "(I)I"⟩
abbrev cX10_countByRule : ByteArray := prog_1_method_29_code
def yX10_countByRule : MethodName := ⟨RX10, "countByRule", "(II)I"⟩
abbrev cX10_isBelow : ByteArray := prog_1_method_30_code
def yX10_isBelow : MethodName := ⟨RX10, "isBelow", "(II)Z"⟩
abbrev cX10_isMinute : ByteArray := prog_1_method_31_code
def yX10_isMinute : MethodName := ⟨RX10, "isMinute", "(I)Z"⟩
abbrev cX10_isCell : ByteArray := prog_1_method_32_code
def yX10_isCell : MethodName := ⟨RX10, "isCell", "(II)Z"⟩
abbrev cX10_lengthOfShadow : ByteArray := prog_1_method_33_code
def yX10_lengthOfShadow : MethodName := ⟨RX10, "lengthOfShadow", "(II)I"⟩
abbrev cX10_reach : ByteArray := prog_1_method_34_code
def yX10_reach : MethodName := ⟨RX10, "reach", "(III)I"⟩
abbrev cX10_columnBits : ByteArray := prog_1_method_35_code
def yX10_columnBits : MethodName := ⟨RX10, "columnBits", "(II)I"⟩
def RX11 : String := "ShadowCountModel"
def TX11 : u_T := fun k => match k with
  | 0 => ("ShadowCountModel", "readBody", "[I", true)
  | 1 => ("ShadowCountModel", "readHill", "[I", true)
  | 2 => ("ShadowCountModel", "readCloud", "[I", true)
  | 3 => ("ShadowCountModel", "readSun", "[I", true)
  | 4 => ("ShadowCountModel", "readBodies", "I", false)
  | 5 => ("ShadowCountModel", "readHills", "I", false)
  | 6 => ("ShadowCountModel", "readClouds", "I", false)
  | 7 => ("ShadowCountModel", "body", "[I", true)
  | 8 => ("ShadowCountModel", "hill", "[I", true)
  | 9 => ("ShadowCountModel", "cloud", "[I", true)
  | 10 => ("ShadowCountModel", "sun", "[I", true)
  | 11 => ("ShadowCountModel", "bodies", "I", false)
  | 12 => ("ShadowCountModel", "hills", "I", false)
  | 13 => ("ShadowCountModel", "clouds", "I", false)
  | 14 => ("ShadowCountModel", "cliffs", "I", false)
  | 15 => ("ShadowCountModel", "text", "[I", true)
  | 16 => ("ShadowCountModel", "length", "I", false)
  | 17 => ("ShadowCountModel", "at", "I", false)
  | 18 => ("ShadowCountModel", "faultAt", "I", false)
  | 19 => ("ShadowCountModel", "acts", "I", false)
  | 20 => ("ShadowCountModel", "next", "I", false)
  | 21 => ("ShadowCountModel", "row", "[I", true)
  | 22 => ("ShadowCountModel", "found", "[I", true)
  | 23 => ("ShadowCountModel", "sights", "I", false)
  | 24 => ("ShadowCountModel", "sightAt", "[I", true)
  | 25 => ("ShadowCountModel", "sightCells", "[I", true)
  | 26 => ("ShadowCountModel", "reaches", "[I", true)
  | 27 => ("ShadowCountModel", "fitMany", "I", false)
  | 28 => ("ShadowCountModel", "fitLeast", "I", false)
  | 29 => ("ShadowCountModel", "fitMost", "I", false)
  | 30 => ("ShadowCountModel", "fitSure", "I", false)
  | 31 => ("ShadowCountModel", "shown", "[Z", true)
  | 32 => ("ShadowCountModel", "isKept", "[Z", true)
  | 33 => ("ShadowCountModel", "keptBody", "[I", true)
  | 34 => ("ShadowCountModel", "keptAt", "[I", true)
  | 35 => ("ShadowCountModel", "keptCells", "[I", true)
  | _ => ("ShadowCountModel", "keptSights", "[I", true)
def tyX11 : Nat → FieldType := fun k => match k with
  | 0 => .array .int
  | 1 => .array .int
  | 2 => .array .int
  | 3 => .array .int
  | 4 => .int
  | 5 => .int
  | 6 => .int
  | 7 => .array .int
  | 8 => .array .int
  | 9 => .array .int
  | 10 => .array .int
  | 11 => .int
  | 12 => .int
  | 13 => .int
  | 14 => .int
  | 15 => .array .int
  | 16 => .int
  | 17 => .int
  | 18 => .int
  | 19 => .int
  | 20 => .int
  | 21 => .array .int
  | 22 => .array .int
  | 23 => .int
  | 24 => .array .int
  | 25 => .array .int
  | 26 => .array .int
  | 27 => .int
  | 28 => .int
  | 29 => .int
  | 30 => .int
  | 31 => .array .boolean
  | 32 => .array .boolean
  | 33 => .array .int
  | 34 => .array .int
  | 35 => .array .int
  | _ => .array .int
abbrev wsX110 : List Cond := u_ws RX11 TX11 37
theorem nmX11 : ∀ a, a < 37 → ∀ b, b < 37 → a ≠ b → (TX11 a).2.1 ≠ (TX11 b).2.1 := by decide +kernel
theorem tyX11_ok : ∀ k, k < 37 → parseFieldDescriptor (TX11 k).2.2.1 = some (tyX11 k) := by decide +kernel
abbrev cX11_init : ByteArray := prog_13_method_1_code
def yX11_init : MethodName := ⟨RX11, "<init>", "()V"⟩
abbrev cX11_in : ByteArray := prog_13_method_3_code
def yX11_in : MethodName := ⟨RX11, "in", "(JJJ)Z"⟩
abbrev cX11_write : ByteArray := prog_13_method_4_code
def yX11_write : MethodName := ⟨RX11, "write", "(IJ)I"⟩
abbrev cX11_wipe : ByteArray := prog_13_method_5_code
def yX11_wipe : MethodName := ⟨RX11, "wipe", "()I"⟩
abbrev cX11_fail : ByteArray := prog_13_method_6_code
def yX11_fail : MethodName := ⟨RX11, "fail", "()V"⟩
abbrev cX11_sign : ByteArray := prog_13_method_7_code
def yX11_sign : MethodName := ⟨RX11, "sign", "(I)I"⟩
abbrev cX11_bits : ByteArray := prog_13_method_8_code
def yX11_bits : MethodName := ⟨RX11, "bits", "(II)I"⟩
abbrev cX11_kindOf : ByteArray := prog_13_method_9_code
def yX11_kindOf : MethodName := ⟨RX11, "kindOf", "(I)I"⟩
abbrev cX11_freeRows : ByteArray := prog_13_method_10_code
def yX11_freeRows : MethodName := ⟨RX11, "freeRows", "(I)I"⟩
abbrev cX11_readBodyPart : ByteArray := prog_13_method_11_code
def yX11_readBodyPart : MethodName := ⟨RX11, "readBodyPart", "()V"⟩
abbrev cX11_untold : ByteArray := prog_13_method_12_code
def yX11_untold : MethodName := ⟨RX11, "untold", "()I"⟩
abbrev cX11_readText : ByteArray := prog_13_method_13_code
def yX11_readText : MethodName := ⟨RX11, "readText", "()I"⟩
abbrev cX11_readPart : ByteArray := prog_13_method_14_code
def yX11_readPart : MethodName := ⟨RX11, "readPart", "(I)V"⟩
abbrev cX11_fault : ByteArray := prog_13_method_15_code
def yX11_fault : MethodName := ⟨RX11, "fault", "()I"⟩
abbrev cX11_place : ByteArray := prog_13_method_16_code
def yX11_place : MethodName := ⟨RX11, "place", "()I"⟩
abbrev cX11_isBody : ByteArray := prog_13_method_17_code
def yX11_isBody : MethodName := ⟨RX11, "isBody", "(I)Z"⟩
abbrev cX11_isHill : ByteArray := prog_13_method_18_code
def yX11_isHill : MethodName := ⟨RX11, "isHill", "(I)Z"⟩
abbrev cX11_highOf : ByteArray := prog_13_method_19_code
def yX11_highOf : MethodName := ⟨RX11, "highOf", "(I)I"⟩
abbrev cX11_manyOf : ByteArray := prog_13_method_20_code
def yX11_manyOf : MethodName := ⟨RX11, "manyOf", "(I)I"⟩
abbrev cX11_body : ByteArray := prog_13_method_21_code
def yX11_body : MethodName := ⟨RX11, "body", "(II)I"⟩
abbrev cX11_hill : ByteArray := prog_13_method_22_code
def yX11_hill : MethodName := ⟨RX11, "hill", "(II)I"⟩
abbrev cX11_keepAct : ByteArray := prog_13_method_23_code
def yX11_keepAct : MethodName := ⟨RX11, "keepAct", "()V"⟩
abbrev cX11_isCell : ByteArray := prog_13_method_24_code
def yX11_isCell : MethodName := ⟨RX11, "isCell", "(II)Z"⟩
abbrev cX11_isTaken : ByteArray := prog_13_method_25_code
def yX11_isTaken : MethodName := ⟨RX11, "isTaken", "(II)Z"⟩
abbrev cX11_put : ByteArray := prog_13_method_26_code
def yX11_put : MethodName := ⟨RX11, "put", "(III)I"⟩
abbrev cX11_without : ByteArray := prog_13_method_27_code
def yX11_without : MethodName := ⟨RX11, "without", "(I)I"⟩
abbrev cX11_move : ByteArray := prog_13_method_28_code
def yX11_move : MethodName := ⟨RX11, "move", "(III)I"⟩
abbrev cX11_take : ByteArray := prog_13_method_29_code
def yX11_take : MethodName := ⟨RX11, "take", "(I)I"⟩
abbrev cX11_back : ByteArray := prog_13_method_30_code
def yX11_back : MethodName := ⟨RX11, "back", "()I"⟩
abbrev cX11_isMinute : ByteArray := prog_13_method_31_code
def yX11_isMinute : MethodName := ⟨RX11, "isMinute", "(I)Z"⟩
abbrev cX11_longAt : ByteArray := prog_13_method_32_code
def yX11_longAt : MethodName := ⟨RX11, "longAt", "(II)I"⟩
abbrev cX11_reach : ByteArray := prog_13_method_33_code
def yX11_reach : MethodName := ⟨RX11, "reach", "(III)I"⟩
abbrev cX11_lit : ByteArray := prog_13_method_34_code
def yX11_lit : MethodName := ⟨RX11, "lit", "(II)I"⟩
abbrev cX11_darkOf : ByteArray := prog_13_method_35_code
def yX11_darkOf : MethodName := ⟨RX11, "darkOf", "(II)I"⟩
abbrev cX11_shadow : ByteArray := prog_13_method_36_code
def yX11_shadow : MethodName := ⟨RX11, "shadow", "(II)I"⟩
abbrev cX11_dark : ByteArray := prog_13_method_37_code
def yX11_dark : MethodName := ⟨RX11, "dark", "(II)I"⟩
abbrev cX11_layRuns : ByteArray := prog_13_method_38_code
def yX11_layRuns : MethodName := ⟨RX11, "layRuns", "(II)I"⟩
abbrev cX11_runs : ByteArray := prog_13_method_39_code
def yX11_runs : MethodName := ⟨RX11, "runs", "(II)I"⟩
abbrev cX11_run : ByteArray := prog_13_method_40_code
def yX11_run : MethodName := ⟨RX11, "run", "(IIII)I"⟩
abbrev cX11_alone : ByteArray := prog_13_method_41_code
def yX11_alone : MethodName := ⟨RX11, "alone", "(I)I"⟩
abbrev cX11_countedOf : ByteArray := prog_13_method_42_code
def yX11_countedOf : MethodName := ⟨RX11, "countedOf", "(II)I"⟩
abbrev cX11_counted : ByteArray := prog_13_method_43_code
def yX11_counted : MethodName := ⟨RX11, "counted", "(II)I"⟩
abbrev cX11_counts : ByteArray := prog_13_method_44_code
def yX11_counts : MethodName := ⟨RX11, "counts", "()I"⟩
abbrev cX11_best : ByteArray := prog_13_method_45_code
def yX11_best : MethodName := ⟨RX11, "best", "(I)I"⟩
abbrev cX11_isHidden : ByteArray := prog_13_method_46_code
def yX11_isHidden : MethodName := ⟨RX11, "isHidden", "(III)Z"⟩
abbrev cX11_hide : ByteArray := prog_13_method_47_code
def yX11_hide : MethodName := ⟨RX11, "hide", "(I)I"⟩
abbrev cX11_sight : ByteArray := prog_13_method_48_code
def yX11_sight : MethodName := ⟨RX11, "sight", "(II)I"⟩
abbrev cX11_unsee : ByteArray := prog_13_method_49_code
def yX11_unsee : MethodName := ⟨RX11, "unsee", "()I"⟩
abbrev cX11_rowDark : ByteArray := prog_13_method_50_code
def yX11_rowDark : MethodName := ⟨RX11, "rowDark", "(II)I"⟩
abbrev cX11_isFit : ByteArray := prog_13_method_51_code
def yX11_isFit : MethodName := ⟨RX11, "isFit", "(I)Z"⟩
abbrev cX11_layFits : ByteArray := prog_13_method_52_code
def yX11_layFits : MethodName := ⟨RX11, "layFits", "(Z)V"⟩
abbrev cX11_layFit : ByteArray := prog_13_method_53_code
def yX11_layFit : MethodName := ⟨RX11, "layFit", "(I)V"⟩
abbrev cX11_fits : ByteArray := prog_13_method_54_code
def yX11_fits : MethodName := ⟨RX11, "fits", "()I"⟩
abbrev cX11_people : ByteArray := prog_13_method_55_code
def yX11_people : MethodName := ⟨RX11, "people", "(Z)I"⟩
abbrev cX11_sure : ByteArray := prog_13_method_56_code
def yX11_sure : MethodName := ⟨RX11, "sure", "()I"⟩
abbrev cX11_next : ByteArray := prog_13_method_57_code
def yX11_next : MethodName := ⟨RX11, "next", "()I"⟩
abbrev cX11_keep : ByteArray := prog_13_method_58_code
def yX11_keep : MethodName := ⟨RX11, "keep", "(I)I"⟩
abbrev cX11_again : ByteArray := prog_13_method_59_code
def yX11_again : MethodName := ⟨RX11, "again", "(I)I"⟩
abbrev cX11_count : ByteArray := prog_13_method_60_code
def yX11_count : MethodName := ⟨RX11, "count", "(I)I"⟩
def RJ11 : String := "java/lang/Character"
def TJ11 : u_T := fun k => match k with
  | _ => ("", "", "", false)
def tyJ11 : Nat → FieldType := fun k => match k with
  | _ => .int
abbrev wsJ110 : List Cond := u_ws RJ11 TJ11 0
theorem nmJ11 : ∀ a, a < 0 → ∀ b, b < 0 → a ≠ b → (TJ11 a).2.1 ≠ (TJ11 b).2.1 := by decide +kernel
theorem tyJ11_ok : ∀ k, k < 0 → parseFieldDescriptor (TJ11 k).2.2.1 = some (tyJ11 k) := by decide +kernel
abbrev cJ11_isValidCodePoint_9a6ad : ByteArray := prog_14_method_11_code
def yJ11_isValidCodePoint_9a6ad : MethodName := ⟨RJ11, "isValidCodePoint", "(I)Z"⟩
abbrev cJ11_highSurrogate_5068e : ByteArray := prog_14_method_28_code
def yJ11_highSurrogate_5068e : MethodName := ⟨RJ11, "highSurrogate", "(I)C"⟩
abbrev cJ11_lowSurrogate_5068e : ByteArray := prog_14_method_29_code
def yJ11_lowSurrogate_5068e : MethodName := ⟨RJ11, "lowSurrogate", "(I)C"⟩
def RJ9 : String := "java/lang/Math"
def TJ9 : u_T := fun k => match k with
  | _ => ("", "", "", false)
def tyJ9 : Nat → FieldType := fun k => match k with
  | _ => .int
abbrev wsJ90 : List Cond := u_ws RJ9 TJ9 0
theorem nmJ9 : ∀ a, a < 0 → ∀ b, b < 0 → a ≠ b → (TJ9 a).2.1 ≠ (TJ9 b).2.1 := by decide +kernel
theorem tyJ9_ok : ∀ k, k < 0 → parseFieldDescriptor (TJ9 k).2.2.1 = some (tyJ9 k) := by decide +kernel
abbrev cJ9_abs_0f7a4 : ByteArray := prog_15_method_59_code
def yJ9_abs_0f7a4 : MethodName := ⟨RJ9, "abs", "(I)I"⟩
abbrev cJ9_max_7cf53 : ByteArray := prog_15_method_65_code
def yJ9_max_7cf53 : MethodName := ⟨RJ9, "max", "(II)I"⟩
abbrev cJ9_min_7cf53 : ByteArray := prog_15_method_69_code
def yJ9_min_7cf53 : MethodName := ⟨RJ9, "min", "(II)I"⟩
def RJ0 : String := "java/lang/String"
def TJ0 : u_T := fun k => match k with
  | _ => ("", "", "", false)
def tyJ0 : Nat → FieldType := fun k => match k with
  | _ => .int
abbrev wsJ00 : List Cond := u_ws RJ0 TJ0 0
theorem nmJ0 : ∀ a, a < 0 → ∀ b, b < 0 → a ≠ b → (TJ0 a).2.1 ≠ (TJ0 b).2.1 := by decide +kernel
theorem tyJ0_ok : ∀ k, k < 0 → parseFieldDescriptor (TJ0 k).2.2.1 = some (tyJ0 k) := by decide +kernel
abbrev cJ0_length_8abf5 : ByteArray := prog_16_method_54_code
def yJ0_length_8abf5 : MethodName := ⟨RJ0, "length", "()I"⟩
abbrev cJ0_indexOf_0f7a4 : ByteArray := prog_16_method_79_code
def yJ0_indexOf_0f7a4 : MethodName := ⟨RJ0, "indexOf", "(I)I"⟩
abbrev cJ0_indexOf_7cf53 : ByteArray := prog_16_method_80_code
def yJ0_indexOf_7cf53 : MethodName := ⟨RJ0, "indexOf", "(II)I"⟩
abbrev cJ0_coder_7d493 : ByteArray := prog_16_method_152_code
def yJ0_coder_7d493 : MethodName := ⟨RJ0, "coder", "()B"⟩
abbrev cJ0_isLatin1_aae02 : ByteArray := prog_16_method_154_code
def yJ0_isLatin1_aae02 : MethodName := ⟨RJ0, "isLatin1", "()Z"⟩
abbrev cJ0_checkBoundsBeginEnd_23922 : ByteArray := prog_16_method_158_code
def yJ0_checkBoundsBeginEnd_23922 : MethodName := ⟨RJ0, "checkBoundsBeginEnd", "(III)V"⟩
def RJ1 : String := "java/lang/StringLatin1"
def TJ1 : u_T := fun k => match k with
  | _ => ("", "", "", false)
def tyJ1 : Nat → FieldType := fun k => match k with
  | _ => .int
abbrev wsJ10 : List Cond := u_ws RJ1 TJ1 0
theorem nmJ1 : ∀ a, a < 0 → ∀ b, b < 0 → a ≠ b → (TJ1 a).2.1 ≠ (TJ1 b).2.1 := by decide +kernel
theorem tyJ1_ok : ∀ k, k < 0 → parseFieldDescriptor (TJ1 k).2.2.1 = some (tyJ1 k) := by decide +kernel
abbrev cJ1_canEncode_9a6ad : ByteArray := prog_17_method_4_code
def yJ1_canEncode_9a6ad : MethodName := ⟨RJ1, "canEncode", "(I)Z"⟩
abbrev cJ1_indexOf_4cfef : ByteArray := prog_17_method_22_code
def yJ1_indexOf_4cfef : MethodName := ⟨RJ1, "indexOf", "([BIII)I"⟩
abbrev cJ1_indexOfChar_4cfef : ByteArray := prog_17_method_23_code
def yJ1_indexOfChar_4cfef : MethodName := ⟨RJ1, "indexOfChar", "([BIII)I"⟩
def RJ2 : String := "java/lang/StringUTF16"
def TJ2 : u_T := fun k => match k with
  | _ => ("", "", "", false)
def tyJ2 : Nat → FieldType := fun k => match k with
  | _ => .int
abbrev wsJ20 : List Cond := u_ws RJ2 TJ2 0
theorem nmJ2 : ∀ a, a < 0 → ∀ b, b < 0 → a ≠ b → (TJ2 a).2.1 ≠ (TJ2 b).2.1 := by decide +kernel
theorem tyJ2_ok : ∀ k, k < 0 → parseFieldDescriptor (TJ2 k).2.2.1 = some (tyJ2 k) := by decide +kernel
abbrev cJ2_getChar_3b067 : ByteArray := prog_18_method_5_code
def yJ2_getChar_3b067 : MethodName := ⟨RJ2, "getChar", "([BI)C"⟩
abbrev cJ2_length_9d52b : ByteArray := prog_18_method_6_code
def yJ2_length_9d52b : MethodName := ⟨RJ2, "length", "([B)I"⟩
abbrev cJ2_indexOf_4cfef : ByteArray := prog_18_method_40_code
def yJ2_indexOf_4cfef : MethodName := ⟨RJ2, "indexOf", "([BIII)I"⟩
abbrev cJ2_indexOfChar_4cfef : ByteArray := prog_18_method_47_code
def yJ2_indexOfChar_4cfef : MethodName := ⟨RJ2, "indexOfChar", "([BIII)I"⟩
abbrev cJ2_indexOfCharUnsafe_4cfef : ByteArray := prog_18_method_48_code
def yJ2_indexOfCharUnsafe_4cfef : MethodName := ⟨RJ2, "indexOfCharUnsafe", "([BIII)I"⟩
abbrev cJ2_indexOfSupplementary_4cfef : ByteArray := prog_18_method_49_code
def yJ2_indexOfSupplementary_4cfef : MethodName := ⟨RJ2, "indexOfSupplementary", "([BIII)I"⟩
abbrev cJ2_checkBoundsBeginEnd_d044e : ByteArray := prog_18_method_93_code
def yJ2_checkBoundsBeginEnd_d044e : MethodName := ⟨RJ2, "checkBoundsBeginEnd", "(II[B)V"⟩
def RJ10 : String := "java/lang/System"
def TJ10 : u_T := fun k => match k with
  | _ => ("", "", "", false)
def tyJ10 : Nat → FieldType := fun k => match k with
  | _ => .int
abbrev wsJ100 : List Cond := u_ws RJ10 TJ10 0
theorem nmJ10 : ∀ a, a < 0 → ∀ b, b < 0 → a ≠ b → (TJ10 a).2.1 ≠ (TJ10 b).2.1 := by decide +kernel
theorem tyJ10_ok : ∀ k, k < 0 → parseFieldDescriptor (TJ10 k).2.2.1 = some (tyJ10 k) := by decide +kernel
def RJ3 : String := "jdk/internal/util/Preconditions"
def TJ3 : u_T := fun k => match k with
  | _ => ("", "", "", false)
def tyJ3 : Nat → FieldType := fun k => match k with
  | _ => .int
abbrev wsJ30 : List Cond := u_ws RJ3 TJ3 0
theorem nmJ3 : ∀ a, a < 0 → ∀ b, b < 0 → a ≠ b → (TJ3 a).2.1 ≠ (TJ3 b).2.1 := by decide +kernel
theorem tyJ3_ok : ∀ k, k < 0 → parseFieldDescriptor (TJ3 k).2.2.1 = some (tyJ3 k) := by decide +kernel
abbrev cJ3_checkFromToIndex_8c36e : ByteArray := prog_20_method_12_code
def yJ3_checkFromToIndex_8c36e : MethodName := ⟨RJ3, "checkFromToIndex", "(IIILjava/util/function/BiFunction;)I"⟩
def RL : String := "ShadowCountLaw"
abbrev cL_law : ByteArray := code
def yL_law : MethodName := ⟨RL, "law", "([I)Z"⟩
abbrev vwCl : List vw_C := [(RX0, TX0, 7), (RX1, TX1, 4), (RX2, TX2, 2), (RX3, TX3, 8), (RX4, TX4, 6), (RX5, TX5, 5), (RX6, TX6, 4), (RX7, TX7, 3), (RX8, TX8, 3), (RX9, TX9, 2), (RX10, TX10, 8), (RX11, TX11, 37)]
end
section
theorem dX0_init_0 : decode cX0_init 0 = .ok (.aload_n 0, 1) := by decide +kernel
theorem dX0_init_1 : decode cX0_init 1 = .ok (.invokespecial 1, 3) := by decide +kernel
theorem dX0_init_4 : decode cX0_init 4 = .ok (.aload_n 0, 1) := by decide +kernel
theorem dX0_init_5 : decode cX0_init 5 = .ok (.bipush 16, 2) := by decide +kernel
theorem dX0_init_7 : decode cX0_init 7 = .ok (.newarray .int, 2) := by decide +kernel
theorem dX0_init_9 : decode cX0_init 9 = .ok (.putfield 9, 3) := by decide +kernel
theorem dX0_init_12 : decode cX0_init 12 = .ok (.aload_n 0, 1) := by decide +kernel
theorem dX0_init_13 : decode cX0_init 13 = .ok (.bipush 16, 2) := by decide +kernel
theorem dX0_init_15 : decode cX0_init 15 = .ok (.newarray .int, 2) := by decide +kernel
theorem dX0_init_17 : decode cX0_init 17 = .ok (.putfield 13, 3) := by decide +kernel
theorem dX0_init_20 : decode cX0_init 20 = .ok (.aload_n 0, 1) := by decide +kernel
theorem dX0_init_21 : decode cX0_init 21 = .ok (.bipush 16, 2) := by decide +kernel
theorem dX0_init_23 : decode cX0_init 23 = .ok (.newarray .int, 2) := by decide +kernel
theorem dX0_init_25 : decode cX0_init 25 = .ok (.putfield 16, 3) := by decide +kernel
theorem dX0_init_28 : decode cX0_init 28 = .ok (.aload_n 0, 1) := by decide +kernel
theorem dX0_init_29 : decode cX0_init 29 = .ok (.bipush 16, 2) := by decide +kernel
theorem dX0_init_31 : decode cX0_init 31 = .ok (.newarray .int, 2) := by decide +kernel
theorem dX0_init_33 : decode cX0_init 33 = .ok (.putfield 19, 3) := by decide +kernel
theorem dX0_init_36 : decode cX0_init 36 = .ok (.aload_n 0, 1) := by decide +kernel
theorem dX0_init_37 : decode cX0_init 37 = .ok (.bipush 16, 2) := by decide +kernel
theorem dX0_init_39 : decode cX0_init 39 = .ok (.newarray .int, 2) := by decide +kernel
theorem dX0_init_41 : decode cX0_init 41 = .ok (.putfield 22, 3) := by decide +kernel
theorem dX0_init_44 : decode cX0_init 44 = .ok (.return_, 1) := by decide +kernel
theorem dX0_forget_0 : decode cX0_forget 0 = .ok (.aload_n 0, 1) := by decide +kernel
theorem dX0_forget_1 : decode cX0_forget 1 = .ok (.iconst 0, 1) := by decide +kernel
theorem dX0_forget_2 : decode cX0_forget 2 = .ok (.putfield 25, 3) := by decide +kernel
theorem dX0_forget_5 : decode cX0_forget 5 = .ok (.aload_n 0, 1) := by decide +kernel
theorem dX0_forget_6 : decode cX0_forget 6 = .ok (.iconst 0, 1) := by decide +kernel
theorem dX0_forget_7 : decode cX0_forget 7 = .ok (.putfield 29, 3) := by decide +kernel
theorem dX0_forget_10 : decode cX0_forget 10 = .ok (.return_, 1) := by decide +kernel
theorem dX0_remember_0 : decode cX0_remember 0 = .ok (.aload_n 3, 1) := by decide +kernel
theorem dX0_remember_1 : decode cX0_remember 1 = .ok (.iload_n 2, 1) := by decide +kernel
theorem dX0_remember_2 : decode cX0_remember 2 = .ok (.invokevirtual 32, 3) := by decide +kernel
theorem dX0_remember_5 : decode cX0_remember 5 = .ok (.ifCond .ne 4, 3) := by decide +kernel
theorem dX0_remember_8 : decode cX0_remember 8 = .ok (.return_, 1) := by decide +kernel
theorem dX0_remember_9 : decode cX0_remember 9 = .ok (.aload_n 0, 1) := by decide +kernel
theorem dX0_remember_10 : decode cX0_remember 10 = .ok (.getfield 29, 3) := by decide +kernel
theorem dX0_remember_13 : decode cX0_remember 13 = .ok (.bipush 16, 2) := by decide +kernel
theorem dX0_remember_15 : decode cX0_remember 15 = .ok (.if_icmp .ne 26, 3) := by decide +kernel
theorem dX0_remember_18 : decode cX0_remember 18 = .ok (.aload_n 0, 1) := by decide +kernel
theorem dX0_remember_19 : decode cX0_remember 19 = .ok (.aload_n 0, 1) := by decide +kernel
theorem dX0_remember_20 : decode cX0_remember 20 = .ok (.getfield 25, 3) := by decide +kernel
theorem dX0_remember_23 : decode cX0_remember 23 = .ok (.iconst 1, 1) := by decide +kernel
theorem dX0_remember_24 : decode cX0_remember 24 = .ok (.iadd, 1) := by decide +kernel
theorem dX0_remember_25 : decode cX0_remember 25 = .ok (.bipush 16, 2) := by decide +kernel
theorem dX0_remember_27 : decode cX0_remember 27 = .ok (.irem, 1) := by decide +kernel
theorem dX0_remember_28 : decode cX0_remember 28 = .ok (.putfield 25, 3) := by decide +kernel
theorem dX0_remember_31 : decode cX0_remember 31 = .ok (.aload_n 0, 1) := by decide +kernel
theorem dX0_remember_32 : decode cX0_remember 32 = .ok (.dup, 1) := by decide +kernel
theorem dX0_remember_33 : decode cX0_remember 33 = .ok (.getfield 29, 3) := by decide +kernel
theorem dX0_remember_36 : decode cX0_remember 36 = .ok (.iconst 1, 1) := by decide +kernel
theorem dX0_remember_37 : decode cX0_remember 37 = .ok (.isub, 1) := by decide +kernel
theorem dX0_remember_38 : decode cX0_remember 38 = .ok (.putfield 29, 3) := by decide +kernel
theorem dX0_remember_41 : decode cX0_remember 41 = .ok (.aload_n 0, 1) := by decide +kernel
theorem dX0_remember_42 : decode cX0_remember 42 = .ok (.getfield 25, 3) := by decide +kernel
theorem dX0_remember_45 : decode cX0_remember 45 = .ok (.aload_n 0, 1) := by decide +kernel
theorem dX0_remember_46 : decode cX0_remember 46 = .ok (.getfield 29, 3) := by decide +kernel
theorem dX0_remember_49 : decode cX0_remember 49 = .ok (.iadd, 1) := by decide +kernel
theorem dX0_remember_50 : decode cX0_remember 50 = .ok (.bipush 16, 2) := by decide +kernel
theorem dX0_remember_52 : decode cX0_remember 52 = .ok (.irem, 1) := by decide +kernel
theorem dX0_remember_53 : decode cX0_remember 53 = .ok (.istore 4, 2) := by decide +kernel
theorem dX0_remember_55 : decode cX0_remember 55 = .ok (.aload_n 0, 1) := by decide +kernel
theorem dX0_remember_56 : decode cX0_remember 56 = .ok (.getfield 9, 3) := by decide +kernel
theorem dX0_remember_59 : decode cX0_remember 59 = .ok (.iload 4, 2) := by decide +kernel
theorem dX0_remember_61 : decode cX0_remember 61 = .ok (.iload_n 1, 1) := by decide +kernel
theorem dX0_remember_62 : decode cX0_remember 62 = .ok (.iastore, 1) := by decide +kernel
theorem dX0_remember_63 : decode cX0_remember 63 = .ok (.aload_n 0, 1) := by decide +kernel
theorem dX0_remember_64 : decode cX0_remember 64 = .ok (.getfield 13, 3) := by decide +kernel
theorem dX0_remember_67 : decode cX0_remember 67 = .ok (.iload 4, 2) := by decide +kernel
theorem dX0_remember_69 : decode cX0_remember 69 = .ok (.iload_n 2, 1) := by decide +kernel
theorem dX0_remember_70 : decode cX0_remember 70 = .ok (.iastore, 1) := by decide +kernel
theorem dX0_remember_71 : decode cX0_remember 71 = .ok (.aload_n 0, 1) := by decide +kernel
theorem dX0_remember_72 : decode cX0_remember 72 = .ok (.getfield 16, 3) := by decide +kernel
theorem dX0_remember_75 : decode cX0_remember 75 = .ok (.iload 4, 2) := by decide +kernel
theorem dX0_remember_77 : decode cX0_remember 77 = .ok (.aload_n 3, 1) := by decide +kernel
theorem dX0_remember_78 : decode cX0_remember 78 = .ok (.getfield 38, 3) := by decide +kernel
theorem dX0_remember_81 : decode cX0_remember 81 = .ok (.iload_n 2, 1) := by decide +kernel
theorem dX0_remember_82 : decode cX0_remember 82 = .ok (.iaload, 1) := by decide +kernel
theorem dX0_remember_83 : decode cX0_remember 83 = .ok (.iastore, 1) := by decide +kernel
theorem dX0_remember_84 : decode cX0_remember 84 = .ok (.aload_n 0, 1) := by decide +kernel
theorem dX0_remember_85 : decode cX0_remember 85 = .ok (.getfield 19, 3) := by decide +kernel
theorem dX0_remember_88 : decode cX0_remember 88 = .ok (.iload 4, 2) := by decide +kernel
theorem dX0_remember_90 : decode cX0_remember 90 = .ok (.aload_n 3, 1) := by decide +kernel
theorem dX0_remember_91 : decode cX0_remember 91 = .ok (.getfield 39, 3) := by decide +kernel
theorem dX0_remember_94 : decode cX0_remember 94 = .ok (.iload_n 2, 1) := by decide +kernel
theorem dX0_remember_95 : decode cX0_remember 95 = .ok (.iaload, 1) := by decide +kernel
theorem dX0_remember_96 : decode cX0_remember 96 = .ok (.iastore, 1) := by decide +kernel
theorem dX0_remember_97 : decode cX0_remember 97 = .ok (.aload_n 0, 1) := by decide +kernel
theorem dX0_remember_98 : decode cX0_remember 98 = .ok (.getfield 22, 3) := by decide +kernel
theorem dX0_remember_101 : decode cX0_remember 101 = .ok (.iload 4, 2) := by decide +kernel
theorem dX0_remember_103 : decode cX0_remember 103 = .ok (.aload_n 3, 1) := by decide +kernel
theorem dX0_remember_104 : decode cX0_remember 104 = .ok (.getfield 40, 3) := by decide +kernel
theorem dX0_remember_107 : decode cX0_remember 107 = .ok (.iload_n 2, 1) := by decide +kernel
theorem dX0_remember_108 : decode cX0_remember 108 = .ok (.iaload, 1) := by decide +kernel
theorem dX0_remember_109 : decode cX0_remember 109 = .ok (.iastore, 1) := by decide +kernel
theorem dX0_remember_110 : decode cX0_remember 110 = .ok (.aload_n 0, 1) := by decide +kernel
theorem dX0_remember_111 : decode cX0_remember 111 = .ok (.dup, 1) := by decide +kernel
theorem dX0_remember_112 : decode cX0_remember 112 = .ok (.getfield 29, 3) := by decide +kernel
theorem dX0_remember_115 : decode cX0_remember 115 = .ok (.iconst 1, 1) := by decide +kernel
theorem dX0_remember_116 : decode cX0_remember 116 = .ok (.iadd, 1) := by decide +kernel
theorem dX0_remember_117 : decode cX0_remember 117 = .ok (.putfield 29, 3) := by decide +kernel
theorem dX0_remember_120 : decode cX0_remember 120 = .ok (.return_, 1) := by decide +kernel
theorem dX0_undo_0 : decode cX0_undo 0 = .ok (.aload_n 0, 1) := by decide +kernel
theorem dX0_undo_1 : decode cX0_undo 1 = .ok (.getfield 29, 3) := by decide +kernel
theorem dX0_undo_4 : decode cX0_undo 4 = .ok (.ifCond .ne 4, 3) := by decide +kernel
theorem dX0_undo_7 : decode cX0_undo 7 = .ok (.return_, 1) := by decide +kernel
theorem dX0_undo_8 : decode cX0_undo 8 = .ok (.aload_n 0, 1) := by decide +kernel
theorem dX0_undo_9 : decode cX0_undo 9 = .ok (.dup, 1) := by decide +kernel
theorem dX0_undo_10 : decode cX0_undo 10 = .ok (.getfield 29, 3) := by decide +kernel
theorem dX0_undo_13 : decode cX0_undo 13 = .ok (.iconst 1, 1) := by decide +kernel
theorem dX0_undo_14 : decode cX0_undo 14 = .ok (.isub, 1) := by decide +kernel
theorem dX0_undo_15 : decode cX0_undo 15 = .ok (.putfield 29, 3) := by decide +kernel
theorem dX0_undo_18 : decode cX0_undo 18 = .ok (.aload_n 0, 1) := by decide +kernel
theorem dX0_undo_19 : decode cX0_undo 19 = .ok (.getfield 25, 3) := by decide +kernel
theorem dX0_undo_22 : decode cX0_undo 22 = .ok (.aload_n 0, 1) := by decide +kernel
theorem dX0_undo_23 : decode cX0_undo 23 = .ok (.getfield 29, 3) := by decide +kernel
theorem dX0_undo_26 : decode cX0_undo 26 = .ok (.iadd, 1) := by decide +kernel
theorem dX0_undo_27 : decode cX0_undo 27 = .ok (.bipush 16, 2) := by decide +kernel
theorem dX0_undo_29 : decode cX0_undo 29 = .ok (.irem, 1) := by decide +kernel
theorem dX0_undo_30 : decode cX0_undo 30 = .ok (.istore_n 2, 1) := by decide +kernel
theorem dX0_undo_31 : decode cX0_undo 31 = .ok (.aload_n 0, 1) := by decide +kernel
theorem dX0_undo_32 : decode cX0_undo 32 = .ok (.getfield 9, 3) := by decide +kernel
theorem dX0_undo_35 : decode cX0_undo 35 = .ok (.iload_n 2, 1) := by decide +kernel
theorem dX0_undo_36 : decode cX0_undo 36 = .ok (.iaload, 1) := by decide +kernel
theorem dX0_undo_37 : decode cX0_undo 37 = .ok (.iconst 2, 1) := by decide +kernel
theorem dX0_undo_38 : decode cX0_undo 38 = .ok (.if_icmp .eq 13, 3) := by decide +kernel
theorem dX0_undo_41 : decode cX0_undo 41 = .ok (.aload_n 1, 1) := by decide +kernel
theorem dX0_undo_42 : decode cX0_undo 42 = .ok (.aload_n 0, 1) := by decide +kernel
theorem dX0_undo_43 : decode cX0_undo 43 = .ok (.getfield 13, 3) := by decide +kernel
theorem dX0_undo_46 : decode cX0_undo 46 = .ok (.iload_n 2, 1) := by decide +kernel
theorem dX0_undo_47 : decode cX0_undo 47 = .ok (.iaload, 1) := by decide +kernel
theorem dX0_undo_48 : decode cX0_undo 48 = .ok (.invokevirtual 41, 3) := by decide +kernel
theorem dX0_undo_51 : decode cX0_undo 51 = .ok (.aload_n 0, 1) := by decide +kernel
theorem dX0_undo_52 : decode cX0_undo 52 = .ok (.getfield 9, 3) := by decide +kernel
theorem dX0_undo_55 : decode cX0_undo 55 = .ok (.iload_n 2, 1) := by decide +kernel
theorem dX0_undo_56 : decode cX0_undo 56 = .ok (.iaload, 1) := by decide +kernel
theorem dX0_undo_57 : decode cX0_undo 57 = .ok (.ifCond .eq 31, 3) := by decide +kernel
theorem dX0_undo_60 : decode cX0_undo 60 = .ok (.aload_n 1, 1) := by decide +kernel
theorem dX0_undo_61 : decode cX0_undo 61 = .ok (.aload_n 0, 1) := by decide +kernel
theorem dX0_undo_62 : decode cX0_undo 62 = .ok (.getfield 13, 3) := by decide +kernel
theorem dX0_undo_65 : decode cX0_undo 65 = .ok (.iload_n 2, 1) := by decide +kernel
theorem dX0_undo_66 : decode cX0_undo 66 = .ok (.iaload, 1) := by decide +kernel
theorem dX0_undo_67 : decode cX0_undo 67 = .ok (.aload_n 0, 1) := by decide +kernel
theorem dX0_undo_68 : decode cX0_undo 68 = .ok (.getfield 16, 3) := by decide +kernel
theorem dX0_undo_71 : decode cX0_undo 71 = .ok (.iload_n 2, 1) := by decide +kernel
theorem dX0_undo_72 : decode cX0_undo 72 = .ok (.iaload, 1) := by decide +kernel
theorem dX0_undo_73 : decode cX0_undo 73 = .ok (.aload_n 0, 1) := by decide +kernel
theorem dX0_undo_74 : decode cX0_undo 74 = .ok (.getfield 19, 3) := by decide +kernel
theorem dX0_undo_77 : decode cX0_undo 77 = .ok (.iload_n 2, 1) := by decide +kernel
theorem dX0_undo_78 : decode cX0_undo 78 = .ok (.iaload, 1) := by decide +kernel
theorem dX0_undo_79 : decode cX0_undo 79 = .ok (.aload_n 0, 1) := by decide +kernel
theorem dX0_undo_80 : decode cX0_undo 80 = .ok (.getfield 22, 3) := by decide +kernel
theorem dX0_undo_83 : decode cX0_undo 83 = .ok (.iload_n 2, 1) := by decide +kernel
theorem dX0_undo_84 : decode cX0_undo 84 = .ok (.iaload, 1) := by decide +kernel
theorem dX0_undo_85 : decode cX0_undo 85 = .ok (.invokevirtual 45, 3) := by decide +kernel
theorem dX0_undo_88 : decode cX0_undo 88 = .ok (.return_, 1) := by decide +kernel
theorem dX1_init_0 : decode cX1_init 0 = .ok (.aload_n 0, 1) := by decide +kernel
theorem dX1_init_1 : decode cX1_init 1 = .ok (.invokespecial 1, 3) := by decide +kernel
theorem dX1_init_4 : decode cX1_init 4 = .ok (.aload_n 0, 1) := by decide +kernel
theorem dX1_init_5 : decode cX1_init 5 = .ok (.bipush 8, 2) := by decide +kernel
theorem dX1_init_7 : decode cX1_init 7 = .ok (.newarray .int, 2) := by decide +kernel
theorem dX1_init_9 : decode cX1_init 9 = .ok (.putfield 9, 3) := by decide +kernel
theorem dX1_init_12 : decode cX1_init 12 = .ok (.aload_n 0, 1) := by decide +kernel
theorem dX1_init_13 : decode cX1_init 13 = .ok (.bipush 8, 2) := by decide +kernel
theorem dX1_init_15 : decode cX1_init 15 = .ok (.newarray .int, 2) := by decide +kernel
theorem dX1_init_17 : decode cX1_init 17 = .ok (.putfield 13, 3) := by decide +kernel
theorem dX1_init_20 : decode cX1_init 20 = .ok (.aload_n 0, 1) := by decide +kernel
theorem dX1_init_21 : decode cX1_init 21 = .ok (.bipush 8, 2) := by decide +kernel
theorem dX1_init_23 : decode cX1_init 23 = .ok (.newarray .int, 2) := by decide +kernel
theorem dX1_init_25 : decode cX1_init 25 = .ok (.putfield 16, 3) := by decide +kernel
theorem dX1_init_28 : decode cX1_init 28 = .ok (.return_, 1) := by decide +kernel
theorem dX1_has_0 : decode cX1_has 0 = .ok (.iload_n 1, 1) := by decide +kernel
theorem dX1_has_1 : decode cX1_has 1 = .ok (.aload_n 0, 1) := by decide +kernel
theorem dX1_has_2 : decode cX1_has 2 = .ok (.getfield 19, 3) := by decide +kernel
theorem dX1_has_5 : decode cX1_has 5 = .ok (.invokestatic 23, 3) := by decide +kernel
theorem dX1_has_8 : decode cX1_has 8 = .ok (.ireturn, 1) := by decide +kernel
theorem dX1_height_0 : decode cX1_height 0 = .ok (.getstatic 29, 3) := by decide +kernel
theorem dX1_height_3 : decode cX1_height 3 = .ok (.aload_n 0, 1) := by decide +kernel
theorem dX1_height_4 : decode cX1_height 4 = .ok (.getfield 9, 3) := by decide +kernel
theorem dX1_height_7 : decode cX1_height 7 = .ok (.iload_n 1, 1) := by decide +kernel
theorem dX1_height_8 : decode cX1_height 8 = .ok (.iaload, 1) := by decide +kernel
theorem dX1_height_9 : decode cX1_height 9 = .ok (.iaload, 1) := by decide +kernel
theorem dX1_height_10 : decode cX1_height 10 = .ok (.ireturn, 1) := by decide +kernel
theorem dX1_heads_0 : decode cX1_heads 0 = .ok (.getstatic 32, 3) := by decide +kernel
theorem dX1_heads_3 : decode cX1_heads 3 = .ok (.aload_n 0, 1) := by decide +kernel
theorem dX1_heads_4 : decode cX1_heads 4 = .ok (.getfield 9, 3) := by decide +kernel
theorem dX1_heads_7 : decode cX1_heads 7 = .ok (.iload_n 1, 1) := by decide +kernel
theorem dX1_heads_8 : decode cX1_heads 8 = .ok (.iaload, 1) := by decide +kernel
theorem dX1_heads_9 : decode cX1_heads 9 = .ok (.iaload, 1) := by decide +kernel
theorem dX1_heads_10 : decode cX1_heads 10 = .ok (.ireturn, 1) := by decide +kernel
theorem dX1_allHeads_0 : decode cX1_allHeads 0 = .ok (.iconst 0, 1) := by decide +kernel
theorem dX1_allHeads_1 : decode cX1_allHeads 1 = .ok (.istore_n 1, 1) := by decide +kernel
theorem dX1_allHeads_2 : decode cX1_allHeads 2 = .ok (.iconst 0, 1) := by decide +kernel
theorem dX1_allHeads_3 : decode cX1_allHeads 3 = .ok (.istore_n 2, 1) := by decide +kernel
theorem dX1_allHeads_4 : decode cX1_allHeads 4 = .ok (.iload_n 2, 1) := by decide +kernel
theorem dX1_allHeads_5 : decode cX1_allHeads 5 = .ok (.aload_n 0, 1) := by decide +kernel
theorem dX1_allHeads_6 : decode cX1_allHeads 6 = .ok (.getfield 19, 3) := by decide +kernel
theorem dX1_allHeads_9 : decode cX1_allHeads 9 = .ok (.if_icmp .ge 17, 3) := by decide +kernel
theorem dX1_allHeads_12 : decode cX1_allHeads 12 = .ok (.iload_n 1, 1) := by decide +kernel
theorem dX1_allHeads_13 : decode cX1_allHeads 13 = .ok (.aload_n 0, 1) := by decide +kernel
theorem dX1_allHeads_14 : decode cX1_allHeads 14 = .ok (.iload_n 2, 1) := by decide +kernel
theorem dX1_allHeads_15 : decode cX1_allHeads 15 = .ok (.invokevirtual 35, 3) := by decide +kernel
theorem dX1_allHeads_18 : decode cX1_allHeads 18 = .ok (.iadd, 1) := by decide +kernel
theorem dX1_allHeads_19 : decode cX1_allHeads 19 = .ok (.istore_n 1, 1) := by decide +kernel
theorem dX1_allHeads_20 : decode cX1_allHeads 20 = .ok (.iinc 2 1, 3) := by decide +kernel
theorem dX1_allHeads_23 : decode cX1_allHeads 23 = .ok (.goto (-19), 3) := by decide +kernel
theorem dX1_allHeads_26 : decode cX1_allHeads 26 = .ok (.iload_n 1, 1) := by decide +kernel
theorem dX1_allHeads_27 : decode cX1_allHeads 27 = .ok (.ireturn, 1) := by decide +kernel
theorem dX1_standsAt_0 : decode cX1_standsAt 0 = .ok (.iconst 0, 1) := by decide +kernel
theorem dX1_standsAt_1 : decode cX1_standsAt 1 = .ok (.istore_n 3, 1) := by decide +kernel
theorem dX1_standsAt_2 : decode cX1_standsAt 2 = .ok (.iload_n 3, 1) := by decide +kernel
theorem dX1_standsAt_3 : decode cX1_standsAt 3 = .ok (.aload_n 0, 1) := by decide +kernel
theorem dX1_standsAt_4 : decode cX1_standsAt 4 = .ok (.getfield 19, 3) := by decide +kernel
theorem dX1_standsAt_7 : decode cX1_standsAt 7 = .ok (.if_icmp .ge 31, 3) := by decide +kernel
theorem dX1_standsAt_10 : decode cX1_standsAt 10 = .ok (.aload_n 0, 1) := by decide +kernel
theorem dX1_standsAt_11 : decode cX1_standsAt 11 = .ok (.getfield 13, 3) := by decide +kernel
theorem dX1_standsAt_14 : decode cX1_standsAt 14 = .ok (.iload_n 3, 1) := by decide +kernel
theorem dX1_standsAt_15 : decode cX1_standsAt 15 = .ok (.iaload, 1) := by decide +kernel
theorem dX1_standsAt_16 : decode cX1_standsAt 16 = .ok (.iload_n 1, 1) := by decide +kernel
theorem dX1_standsAt_17 : decode cX1_standsAt 17 = .ok (.if_icmp .ne 15, 3) := by decide +kernel
theorem dX1_standsAt_20 : decode cX1_standsAt 20 = .ok (.aload_n 0, 1) := by decide +kernel
theorem dX1_standsAt_21 : decode cX1_standsAt 21 = .ok (.getfield 16, 3) := by decide +kernel
theorem dX1_standsAt_24 : decode cX1_standsAt 24 = .ok (.iload_n 3, 1) := by decide +kernel
theorem dX1_standsAt_25 : decode cX1_standsAt 25 = .ok (.iaload, 1) := by decide +kernel
theorem dX1_standsAt_26 : decode cX1_standsAt 26 = .ok (.iload_n 2, 1) := by decide +kernel
theorem dX1_standsAt_27 : decode cX1_standsAt 27 = .ok (.if_icmp .ne 5, 3) := by decide +kernel
theorem dX1_standsAt_30 : decode cX1_standsAt 30 = .ok (.iconst 1, 1) := by decide +kernel
theorem dX1_standsAt_31 : decode cX1_standsAt 31 = .ok (.ireturn, 1) := by decide +kernel
theorem dX1_standsAt_32 : decode cX1_standsAt 32 = .ok (.iinc 3 1, 3) := by decide +kernel
theorem dX1_standsAt_35 : decode cX1_standsAt 35 = .ok (.goto (-33), 3) := by decide +kernel
theorem dX1_standsAt_38 : decode cX1_standsAt 38 = .ok (.iconst 0, 1) := by decide +kernel
theorem dX1_standsAt_39 : decode cX1_standsAt 39 = .ok (.ireturn, 1) := by decide +kernel
theorem dX1_inColumn_0 : decode cX1_inColumn 0 = .ok (.iconst 0, 1) := by decide +kernel
theorem dX1_inColumn_1 : decode cX1_inColumn 1 = .ok (.istore_n 2, 1) := by decide +kernel
theorem dX1_inColumn_2 : decode cX1_inColumn 2 = .ok (.iconst 0, 1) := by decide +kernel
theorem dX1_inColumn_3 : decode cX1_inColumn 3 = .ok (.istore_n 3, 1) := by decide +kernel
theorem dX1_inColumn_4 : decode cX1_inColumn 4 = .ok (.iload_n 3, 1) := by decide +kernel
theorem dX1_inColumn_5 : decode cX1_inColumn 5 = .ok (.aload_n 0, 1) := by decide +kernel
theorem dX1_inColumn_6 : decode cX1_inColumn 6 = .ok (.getfield 19, 3) := by decide +kernel
theorem dX1_inColumn_9 : decode cX1_inColumn 9 = .ok (.if_icmp .ge 27, 3) := by decide +kernel
theorem dX1_inColumn_12 : decode cX1_inColumn 12 = .ok (.iload_n 2, 1) := by decide +kernel
theorem dX1_inColumn_13 : decode cX1_inColumn 13 = .ok (.aload_n 0, 1) := by decide +kernel
theorem dX1_inColumn_14 : decode cX1_inColumn 14 = .ok (.getfield 13, 3) := by decide +kernel
theorem dX1_inColumn_17 : decode cX1_inColumn 17 = .ok (.iload_n 3, 1) := by decide +kernel
theorem dX1_inColumn_18 : decode cX1_inColumn 18 = .ok (.iaload, 1) := by decide +kernel
theorem dX1_inColumn_19 : decode cX1_inColumn 19 = .ok (.iload_n 1, 1) := by decide +kernel
theorem dX1_inColumn_20 : decode cX1_inColumn 20 = .ok (.if_icmp .ne 7, 3) := by decide +kernel
theorem dX1_inColumn_23 : decode cX1_inColumn 23 = .ok (.iconst 1, 1) := by decide +kernel
theorem dX1_inColumn_24 : decode cX1_inColumn 24 = .ok (.goto 4, 3) := by decide +kernel
theorem dX1_inColumn_27 : decode cX1_inColumn 27 = .ok (.iconst 0, 1) := by decide +kernel
theorem dX1_inColumn_28 : decode cX1_inColumn 28 = .ok (.iadd, 1) := by decide +kernel
theorem dX1_inColumn_29 : decode cX1_inColumn 29 = .ok (.istore_n 2, 1) := by decide +kernel
theorem dX1_inColumn_30 : decode cX1_inColumn 30 = .ok (.iinc 3 1, 3) := by decide +kernel
theorem dX1_inColumn_33 : decode cX1_inColumn 33 = .ok (.goto (-29), 3) := by decide +kernel
theorem dX1_inColumn_36 : decode cX1_inColumn 36 = .ok (.iload_n 2, 1) := by decide +kernel
theorem dX1_inColumn_37 : decode cX1_inColumn 37 = .ok (.ireturn, 1) := by decide +kernel
theorem dX1_insert_0 : decode cX1_insert 0 = .ok (.aload_n 0, 1) := by decide +kernel
theorem dX1_insert_1 : decode cX1_insert 1 = .ok (.getfield 19, 3) := by decide +kernel
theorem dX1_insert_4 : decode cX1_insert 4 = .ok (.bipush 8, 2) := by decide +kernel
theorem dX1_insert_6 : decode cX1_insert 6 = .ok (.if_icmp .ge 16, 3) := by decide +kernel
theorem dX1_insert_9 : decode cX1_insert 9 = .ok (.iload_n 1, 1) := by decide +kernel
theorem dX1_insert_10 : decode cX1_insert 10 = .ok (.aload_n 0, 1) := by decide +kernel
theorem dX1_insert_11 : decode cX1_insert 11 = .ok (.getfield 19, 3) := by decide +kernel
theorem dX1_insert_14 : decode cX1_insert 14 = .ok (.iconst 1, 1) := by decide +kernel
theorem dX1_insert_15 : decode cX1_insert 15 = .ok (.iadd, 1) := by decide +kernel
theorem dX1_insert_16 : decode cX1_insert 16 = .ok (.invokestatic 23, 3) := by decide +kernel
theorem dX1_insert_19 : decode cX1_insert 19 = .ok (.ifCond .ne 4, 3) := by decide +kernel
theorem dX1_insert_22 : decode cX1_insert 22 = .ok (.return_, 1) := by decide +kernel
theorem dX1_insert_23 : decode cX1_insert 23 = .ok (.aload_n 0, 1) := by decide +kernel
theorem dX1_insert_24 : decode cX1_insert 24 = .ok (.getfield 19, 3) := by decide +kernel
theorem dX1_insert_27 : decode cX1_insert 27 = .ok (.istore 5, 2) := by decide +kernel
theorem dX1_insert_29 : decode cX1_insert 29 = .ok (.iload 5, 2) := by decide +kernel
theorem dX1_insert_31 : decode cX1_insert 31 = .ok (.iload_n 1, 1) := by decide +kernel
theorem dX1_insert_32 : decode cX1_insert 32 = .ok (.if_icmp .le 19, 3) := by decide +kernel
theorem dX1_insert_35 : decode cX1_insert 35 = .ok (.aload_n 0, 1) := by decide +kernel
theorem dX1_insert_36 : decode cX1_insert 36 = .ok (.iload 5, 2) := by decide +kernel
theorem dX1_insert_38 : decode cX1_insert 38 = .ok (.iconst 1, 1) := by decide +kernel
theorem dX1_insert_39 : decode cX1_insert 39 = .ok (.isub, 1) := by decide +kernel
theorem dX1_insert_40 : decode cX1_insert 40 = .ok (.iload 5, 2) := by decide +kernel
theorem dX1_insert_42 : decode cX1_insert 42 = .ok (.invokevirtual 39, 3) := by decide +kernel
theorem dX1_insert_45 : decode cX1_insert 45 = .ok (.iinc 5 (-1), 3) := by decide +kernel
theorem dX1_insert_48 : decode cX1_insert 48 = .ok (.goto (-19), 3) := by decide +kernel
theorem dX1_insert_51 : decode cX1_insert 51 = .ok (.aload_n 0, 1) := by decide +kernel
theorem dX1_insert_52 : decode cX1_insert 52 = .ok (.getfield 9, 3) := by decide +kernel
theorem dX1_insert_55 : decode cX1_insert 55 = .ok (.iload_n 1, 1) := by decide +kernel
theorem dX1_insert_56 : decode cX1_insert 56 = .ok (.iload_n 2, 1) := by decide +kernel
theorem dX1_insert_57 : decode cX1_insert 57 = .ok (.iastore, 1) := by decide +kernel
theorem dX1_insert_58 : decode cX1_insert 58 = .ok (.aload_n 0, 1) := by decide +kernel
theorem dX1_insert_59 : decode cX1_insert 59 = .ok (.getfield 13, 3) := by decide +kernel
theorem dX1_insert_62 : decode cX1_insert 62 = .ok (.iload_n 1, 1) := by decide +kernel
theorem dX1_insert_63 : decode cX1_insert 63 = .ok (.iload_n 3, 1) := by decide +kernel
theorem dX1_insert_64 : decode cX1_insert 64 = .ok (.iastore, 1) := by decide +kernel
theorem dX1_insert_65 : decode cX1_insert 65 = .ok (.aload_n 0, 1) := by decide +kernel
theorem dX1_insert_66 : decode cX1_insert 66 = .ok (.getfield 16, 3) := by decide +kernel
theorem dX1_insert_69 : decode cX1_insert 69 = .ok (.iload_n 1, 1) := by decide +kernel
theorem dX1_insert_70 : decode cX1_insert 70 = .ok (.iload 4, 2) := by decide +kernel
theorem dX1_insert_72 : decode cX1_insert 72 = .ok (.iastore, 1) := by decide +kernel
theorem dX1_insert_73 : decode cX1_insert 73 = .ok (.aload_n 0, 1) := by decide +kernel
theorem dX1_insert_74 : decode cX1_insert 74 = .ok (.dup, 1) := by decide +kernel
theorem dX1_insert_75 : decode cX1_insert 75 = .ok (.getfield 19, 3) := by decide +kernel
theorem dX1_insert_78 : decode cX1_insert 78 = .ok (.iconst 1, 1) := by decide +kernel
theorem dX1_insert_79 : decode cX1_insert 79 = .ok (.iadd, 1) := by decide +kernel
theorem dX1_insert_80 : decode cX1_insert 80 = .ok (.putfield 19, 3) := by decide +kernel
theorem dX1_insert_83 : decode cX1_insert 83 = .ok (.return_, 1) := by decide +kernel
theorem dX1_remove_0 : decode cX1_remove 0 = .ok (.aload_n 0, 1) := by decide +kernel
theorem dX1_remove_1 : decode cX1_remove 1 = .ok (.iload_n 1, 1) := by decide +kernel
theorem dX1_remove_2 : decode cX1_remove 2 = .ok (.invokevirtual 43, 3) := by decide +kernel
theorem dX1_remove_5 : decode cX1_remove 5 = .ok (.ifCond .ne 4, 3) := by decide +kernel
theorem dX1_remove_8 : decode cX1_remove 8 = .ok (.return_, 1) := by decide +kernel
theorem dX1_remove_9 : decode cX1_remove 9 = .ok (.iload_n 1, 1) := by decide +kernel
theorem dX1_remove_10 : decode cX1_remove 10 = .ok (.istore_n 2, 1) := by decide +kernel
theorem dX1_remove_11 : decode cX1_remove 11 = .ok (.iload_n 2, 1) := by decide +kernel
theorem dX1_remove_12 : decode cX1_remove 12 = .ok (.aload_n 0, 1) := by decide +kernel
theorem dX1_remove_13 : decode cX1_remove 13 = .ok (.getfield 19, 3) := by decide +kernel
theorem dX1_remove_16 : decode cX1_remove 16 = .ok (.iconst 1, 1) := by decide +kernel
theorem dX1_remove_17 : decode cX1_remove 17 = .ok (.isub, 1) := by decide +kernel
theorem dX1_remove_18 : decode cX1_remove 18 = .ok (.if_icmp .ge 17, 3) := by decide +kernel
theorem dX1_remove_21 : decode cX1_remove 21 = .ok (.aload_n 0, 1) := by decide +kernel
theorem dX1_remove_22 : decode cX1_remove 22 = .ok (.iload_n 2, 1) := by decide +kernel
theorem dX1_remove_23 : decode cX1_remove 23 = .ok (.iconst 1, 1) := by decide +kernel
theorem dX1_remove_24 : decode cX1_remove 24 = .ok (.iadd, 1) := by decide +kernel
theorem dX1_remove_25 : decode cX1_remove 25 = .ok (.iload_n 2, 1) := by decide +kernel
theorem dX1_remove_26 : decode cX1_remove 26 = .ok (.invokevirtual 39, 3) := by decide +kernel
theorem dX1_remove_29 : decode cX1_remove 29 = .ok (.iinc 2 1, 3) := by decide +kernel
theorem dX1_remove_32 : decode cX1_remove 32 = .ok (.goto (-21), 3) := by decide +kernel
theorem dX1_remove_35 : decode cX1_remove 35 = .ok (.aload_n 0, 1) := by decide +kernel
theorem dX1_remove_36 : decode cX1_remove 36 = .ok (.dup, 1) := by decide +kernel
theorem dX1_remove_37 : decode cX1_remove 37 = .ok (.getfield 19, 3) := by decide +kernel
theorem dX1_remove_40 : decode cX1_remove 40 = .ok (.iconst 1, 1) := by decide +kernel
theorem dX1_remove_41 : decode cX1_remove 41 = .ok (.isub, 1) := by decide +kernel
theorem dX1_remove_42 : decode cX1_remove 42 = .ok (.putfield 19, 3) := by decide +kernel
theorem dX1_remove_45 : decode cX1_remove 45 = .ok (.return_, 1) := by decide +kernel
theorem dX1_renumber_0 : decode cX1_renumber 0 = .ok (.aload_n 0, 1) := by decide +kernel
theorem dX1_renumber_1 : decode cX1_renumber 1 = .ok (.getfield 9, 3) := by decide +kernel
theorem dX1_renumber_4 : decode cX1_renumber 4 = .ok (.iload_n 2, 1) := by decide +kernel
theorem dX1_renumber_5 : decode cX1_renumber 5 = .ok (.aload_n 0, 1) := by decide +kernel
theorem dX1_renumber_6 : decode cX1_renumber 6 = .ok (.getfield 9, 3) := by decide +kernel
theorem dX1_renumber_9 : decode cX1_renumber 9 = .ok (.iload_n 1, 1) := by decide +kernel
theorem dX1_renumber_10 : decode cX1_renumber 10 = .ok (.iaload, 1) := by decide +kernel
theorem dX1_renumber_11 : decode cX1_renumber 11 = .ok (.iastore, 1) := by decide +kernel
theorem dX1_renumber_12 : decode cX1_renumber 12 = .ok (.aload_n 0, 1) := by decide +kernel
theorem dX1_renumber_13 : decode cX1_renumber 13 = .ok (.getfield 13, 3) := by decide +kernel
theorem dX1_renumber_16 : decode cX1_renumber 16 = .ok (.iload_n 2, 1) := by decide +kernel
theorem dX1_renumber_17 : decode cX1_renumber 17 = .ok (.aload_n 0, 1) := by decide +kernel
theorem dX1_renumber_18 : decode cX1_renumber 18 = .ok (.getfield 13, 3) := by decide +kernel
theorem dX1_renumber_21 : decode cX1_renumber 21 = .ok (.iload_n 1, 1) := by decide +kernel
theorem dX1_renumber_22 : decode cX1_renumber 22 = .ok (.iaload, 1) := by decide +kernel
theorem dX1_renumber_23 : decode cX1_renumber 23 = .ok (.iastore, 1) := by decide +kernel
theorem dX1_renumber_24 : decode cX1_renumber 24 = .ok (.aload_n 0, 1) := by decide +kernel
theorem dX1_renumber_25 : decode cX1_renumber 25 = .ok (.getfield 16, 3) := by decide +kernel
theorem dX1_renumber_28 : decode cX1_renumber 28 = .ok (.iload_n 2, 1) := by decide +kernel
theorem dX1_renumber_29 : decode cX1_renumber 29 = .ok (.aload_n 0, 1) := by decide +kernel
theorem dX1_renumber_30 : decode cX1_renumber 30 = .ok (.getfield 16, 3) := by decide +kernel
theorem dX1_renumber_33 : decode cX1_renumber 33 = .ok (.iload_n 1, 1) := by decide +kernel
theorem dX1_renumber_34 : decode cX1_renumber 34 = .ok (.iaload, 1) := by decide +kernel
theorem dX1_renumber_35 : decode cX1_renumber 35 = .ok (.iastore, 1) := by decide +kernel
theorem dX1_renumber_36 : decode cX1_renumber 36 = .ok (.return_, 1) := by decide +kernel
theorem dX1_copyFrom_0 : decode cX1_copyFrom 0 = .ok (.aload_n 0, 1) := by decide +kernel
theorem dX1_copyFrom_1 : decode cX1_copyFrom 1 = .ok (.aload_n 1, 1) := by decide +kernel
theorem dX1_copyFrom_2 : decode cX1_copyFrom 2 = .ok (.getfield 19, 3) := by decide +kernel
theorem dX1_copyFrom_5 : decode cX1_copyFrom 5 = .ok (.putfield 19, 3) := by decide +kernel
theorem dX1_copyFrom_8 : decode cX1_copyFrom 8 = .ok (.iconst 0, 1) := by decide +kernel
theorem dX1_copyFrom_9 : decode cX1_copyFrom 9 = .ok (.istore_n 2, 1) := by decide +kernel
theorem dX1_copyFrom_10 : decode cX1_copyFrom 10 = .ok (.iload_n 2, 1) := by decide +kernel
theorem dX1_copyFrom_11 : decode cX1_copyFrom 11 = .ok (.aload_n 0, 1) := by decide +kernel
theorem dX1_copyFrom_12 : decode cX1_copyFrom 12 = .ok (.getfield 19, 3) := by decide +kernel
theorem dX1_copyFrom_15 : decode cX1_copyFrom 15 = .ok (.if_icmp .ge 45, 3) := by decide +kernel
theorem dX1_copyFrom_18 : decode cX1_copyFrom 18 = .ok (.aload_n 0, 1) := by decide +kernel
theorem dX1_copyFrom_19 : decode cX1_copyFrom 19 = .ok (.getfield 9, 3) := by decide +kernel
theorem dX1_copyFrom_22 : decode cX1_copyFrom 22 = .ok (.iload_n 2, 1) := by decide +kernel
theorem dX1_copyFrom_23 : decode cX1_copyFrom 23 = .ok (.aload_n 1, 1) := by decide +kernel
theorem dX1_copyFrom_24 : decode cX1_copyFrom 24 = .ok (.getfield 9, 3) := by decide +kernel
theorem dX1_copyFrom_27 : decode cX1_copyFrom 27 = .ok (.iload_n 2, 1) := by decide +kernel
theorem dX1_copyFrom_28 : decode cX1_copyFrom 28 = .ok (.iaload, 1) := by decide +kernel
theorem dX1_copyFrom_29 : decode cX1_copyFrom 29 = .ok (.iastore, 1) := by decide +kernel
theorem dX1_copyFrom_30 : decode cX1_copyFrom 30 = .ok (.aload_n 0, 1) := by decide +kernel
theorem dX1_copyFrom_31 : decode cX1_copyFrom 31 = .ok (.getfield 13, 3) := by decide +kernel
theorem dX1_copyFrom_34 : decode cX1_copyFrom 34 = .ok (.iload_n 2, 1) := by decide +kernel
theorem dX1_copyFrom_35 : decode cX1_copyFrom 35 = .ok (.aload_n 1, 1) := by decide +kernel
theorem dX1_copyFrom_36 : decode cX1_copyFrom 36 = .ok (.getfield 13, 3) := by decide +kernel
theorem dX1_copyFrom_39 : decode cX1_copyFrom 39 = .ok (.iload_n 2, 1) := by decide +kernel
theorem dX1_copyFrom_40 : decode cX1_copyFrom 40 = .ok (.iaload, 1) := by decide +kernel
theorem dX1_copyFrom_41 : decode cX1_copyFrom 41 = .ok (.iastore, 1) := by decide +kernel
theorem dX1_copyFrom_42 : decode cX1_copyFrom 42 = .ok (.aload_n 0, 1) := by decide +kernel
theorem dX1_copyFrom_43 : decode cX1_copyFrom 43 = .ok (.getfield 16, 3) := by decide +kernel
theorem dX1_copyFrom_46 : decode cX1_copyFrom 46 = .ok (.iload_n 2, 1) := by decide +kernel
theorem dX1_copyFrom_47 : decode cX1_copyFrom 47 = .ok (.aload_n 1, 1) := by decide +kernel
theorem dX1_copyFrom_48 : decode cX1_copyFrom 48 = .ok (.getfield 16, 3) := by decide +kernel
theorem dX1_copyFrom_51 : decode cX1_copyFrom 51 = .ok (.iload_n 2, 1) := by decide +kernel
theorem dX1_copyFrom_52 : decode cX1_copyFrom 52 = .ok (.iaload, 1) := by decide +kernel
theorem dX1_copyFrom_53 : decode cX1_copyFrom 53 = .ok (.iastore, 1) := by decide +kernel
theorem dX1_copyFrom_54 : decode cX1_copyFrom 54 = .ok (.iinc 2 1, 3) := by decide +kernel
theorem dX1_copyFrom_57 : decode cX1_copyFrom 57 = .ok (.goto (-47), 3) := by decide +kernel
theorem dX1_copyFrom_60 : decode cX1_copyFrom 60 = .ok (.return_, 1) := by decide +kernel
theorem dX2_init_0 : decode cX2_init 0 = .ok (.aload_n 0, 1) := by decide +kernel
theorem dX2_init_1 : decode cX2_init 1 = .ok (.invokespecial 3, 3) := by decide +kernel
theorem dX2_init_4 : decode cX2_init 4 = .ok (.aload_n 0, 1) := by decide +kernel
theorem dX2_init_5 : decode cX2_init 5 = .ok (.new 9, 3) := by decide +kernel
theorem dX2_init_8 : decode cX2_init 8 = .ok (.dup, 1) := by decide +kernel
theorem dX2_init_9 : decode cX2_init 9 = .ok (.invokespecial 11, 3) := by decide +kernel
theorem dX2_init_12 : decode cX2_init 12 = .ok (.putfield 12, 3) := by decide +kernel
theorem dX2_init_15 : decode cX2_init 15 = .ok (.aload_n 0, 1) := by decide +kernel
theorem dX2_init_16 : decode cX2_init 16 = .ok (.new 18, 3) := by decide +kernel
theorem dX2_init_19 : decode cX2_init 19 = .ok (.dup, 1) := by decide +kernel
theorem dX2_init_20 : decode cX2_init 20 = .ok (.invokespecial 20, 3) := by decide +kernel
theorem dX2_init_23 : decode cX2_init 23 = .ok (.putfield 21, 3) := by decide +kernel
theorem dX2_init_26 : decode cX2_init 26 = .ok (.return_, 1) := by decide +kernel
theorem dX2_clear_0 : decode cX2_clear 0 = .ok (.aload_n 0, 1) := by decide +kernel
theorem dX2_clear_1 : decode cX2_clear 1 = .ok (.getfield 12, 3) := by decide +kernel
theorem dX2_clear_4 : decode cX2_clear 4 = .ok (.iconst 0, 1) := by decide +kernel
theorem dX2_clear_5 : decode cX2_clear 5 = .ok (.putfield 25, 3) := by decide +kernel
theorem dX2_clear_8 : decode cX2_clear 8 = .ok (.aload_n 0, 1) := by decide +kernel
theorem dX2_clear_9 : decode cX2_clear 9 = .ok (.getfield 21, 3) := by decide +kernel
theorem dX2_clear_12 : decode cX2_clear 12 = .ok (.invokevirtual 29, 3) := by decide +kernel
theorem dX2_clear_15 : decode cX2_clear 15 = .ok (.return_, 1) := by decide +kernel
theorem dX2_copyFrom_0 : decode cX2_copyFrom 0 = .ok (.aload_n 0, 1) := by decide +kernel
theorem dX2_copyFrom_1 : decode cX2_copyFrom 1 = .ok (.getfield 12, 3) := by decide +kernel
theorem dX2_copyFrom_4 : decode cX2_copyFrom 4 = .ok (.aload_n 1, 1) := by decide +kernel
theorem dX2_copyFrom_5 : decode cX2_copyFrom 5 = .ok (.getfield 12, 3) := by decide +kernel
theorem dX2_copyFrom_8 : decode cX2_copyFrom 8 = .ok (.invokevirtual 32, 3) := by decide +kernel
theorem dX2_copyFrom_11 : decode cX2_copyFrom 11 = .ok (.aload_n 0, 1) := by decide +kernel
theorem dX2_copyFrom_12 : decode cX2_copyFrom 12 = .ok (.getfield 21, 3) := by decide +kernel
theorem dX2_copyFrom_15 : decode cX2_copyFrom 15 = .ok (.aload_n 1, 1) := by decide +kernel
theorem dX2_copyFrom_16 : decode cX2_copyFrom 16 = .ok (.getfield 21, 3) := by decide +kernel
theorem dX2_copyFrom_19 : decode cX2_copyFrom 19 = .ok (.invokevirtual 36, 3) := by decide +kernel
theorem dX2_copyFrom_22 : decode cX2_copyFrom 22 = .ok (.return_, 1) := by decide +kernel
theorem dX2_darkCells_0 : decode cX2_darkCells 0 = .ok (.iconst 0, 1) := by decide +kernel
theorem dX2_darkCells_1 : decode cX2_darkCells 1 = .ok (.istore_n 3, 1) := by decide +kernel
theorem dX2_darkCells_2 : decode cX2_darkCells 2 = .ok (.iconst 0, 1) := by decide +kernel
theorem dX2_darkCells_3 : decode cX2_darkCells 3 = .ok (.istore 4, 2) := by decide +kernel
theorem dX2_darkCells_5 : decode cX2_darkCells 5 = .ok (.iload 4, 2) := by decide +kernel
theorem dX2_darkCells_7 : decode cX2_darkCells 7 = .ok (.aload_n 0, 1) := by decide +kernel
theorem dX2_darkCells_8 : decode cX2_darkCells 8 = .ok (.getfield 12, 3) := by decide +kernel
theorem dX2_darkCells_11 : decode cX2_darkCells 11 = .ok (.getfield 25, 3) := by decide +kernel
theorem dX2_darkCells_14 : decode cX2_darkCells 14 = .ok (.if_icmp .ge 49, 3) := by decide +kernel
theorem dX2_darkCells_17 : decode cX2_darkCells 17 = .ok (.aload_n 0, 1) := by decide +kernel
theorem dX2_darkCells_18 : decode cX2_darkCells 18 = .ok (.getfield 12, 3) := by decide +kernel
theorem dX2_darkCells_21 : decode cX2_darkCells 21 = .ok (.getfield 39, 3) := by decide +kernel
theorem dX2_darkCells_24 : decode cX2_darkCells 24 = .ok (.iload 4, 2) := by decide +kernel
theorem dX2_darkCells_26 : decode cX2_darkCells 26 = .ok (.iaload, 1) := by decide +kernel
theorem dX2_darkCells_27 : decode cX2_darkCells 27 = .ok (.iload_n 2, 1) := by decide +kernel
theorem dX2_darkCells_28 : decode cX2_darkCells 28 = .ok (.if_icmp .ne 29, 3) := by decide +kernel
theorem dX2_darkCells_31 : decode cX2_darkCells 31 = .ok (.iload_n 3, 1) := by decide +kernel
theorem dX2_darkCells_32 : decode cX2_darkCells 32 = .ok (.aload_n 0, 1) := by decide +kernel
theorem dX2_darkCells_33 : decode cX2_darkCells 33 = .ok (.getfield 12, 3) := by decide +kernel
theorem dX2_darkCells_36 : decode cX2_darkCells 36 = .ok (.iload 4, 2) := by decide +kernel
theorem dX2_darkCells_38 : decode cX2_darkCells 38 = .ok (.invokevirtual 43, 3) := by decide +kernel
theorem dX2_darkCells_41 : decode cX2_darkCells 41 = .ok (.aload_n 0, 1) := by decide +kernel
theorem dX2_darkCells_42 : decode cX2_darkCells 42 = .ok (.getfield 12, 3) := by decide +kernel
theorem dX2_darkCells_45 : decode cX2_darkCells 45 = .ok (.getfield 47, 3) := by decide +kernel
theorem dX2_darkCells_48 : decode cX2_darkCells 48 = .ok (.iload 4, 2) := by decide +kernel
theorem dX2_darkCells_50 : decode cX2_darkCells 50 = .ok (.iaload, 1) := by decide +kernel
theorem dX2_darkCells_51 : decode cX2_darkCells 51 = .ok (.iload_n 1, 1) := by decide +kernel
theorem dX2_darkCells_52 : decode cX2_darkCells 52 = .ok (.invokestatic 50, 3) := by decide +kernel
theorem dX2_darkCells_55 : decode cX2_darkCells 55 = .ok (.ior, 1) := by decide +kernel
theorem dX2_darkCells_56 : decode cX2_darkCells 56 = .ok (.istore_n 3, 1) := by decide +kernel
theorem dX2_darkCells_57 : decode cX2_darkCells 57 = .ok (.iinc 4 1, 3) := by decide +kernel
theorem dX2_darkCells_60 : decode cX2_darkCells 60 = .ok (.goto (-55), 3) := by decide +kernel
theorem dX2_darkCells_63 : decode cX2_darkCells 63 = .ok (.iload_n 3, 1) := by decide +kernel
theorem dX2_darkCells_64 : decode cX2_darkCells 64 = .ok (.aload_n 0, 1) := by decide +kernel
theorem dX2_darkCells_65 : decode cX2_darkCells 65 = .ok (.getfield 21, 3) := by decide +kernel
theorem dX2_darkCells_68 : decode cX2_darkCells 68 = .ok (.iload_n 1, 1) := by decide +kernel
theorem dX2_darkCells_69 : decode cX2_darkCells 69 = .ok (.iload_n 2, 1) := by decide +kernel
theorem dX2_darkCells_70 : decode cX2_darkCells 70 = .ok (.invokevirtual 54, 3) := by decide +kernel
theorem dX2_darkCells_73 : decode cX2_darkCells 73 = .ok (.iand, 1) := by decide +kernel
theorem dX2_darkCells_74 : decode cX2_darkCells 74 = .ok (.ireturn, 1) := by decide +kernel
theorem dX2_darkCellsOf_0 : decode cX2_darkCellsOf 0 = .ok (.aload_n 0, 1) := by decide +kernel
theorem dX2_darkCellsOf_1 : decode cX2_darkCellsOf 1 = .ok (.getfield 12, 3) := by decide +kernel
theorem dX2_darkCellsOf_4 : decode cX2_darkCellsOf 4 = .ok (.iload_n 1, 1) := by decide +kernel
theorem dX2_darkCellsOf_5 : decode cX2_darkCellsOf 5 = .ok (.invokevirtual 43, 3) := by decide +kernel
theorem dX2_darkCellsOf_8 : decode cX2_darkCellsOf 8 = .ok (.aload_n 0, 1) := by decide +kernel
theorem dX2_darkCellsOf_9 : decode cX2_darkCellsOf 9 = .ok (.getfield 12, 3) := by decide +kernel
theorem dX2_darkCellsOf_12 : decode cX2_darkCellsOf 12 = .ok (.getfield 47, 3) := by decide +kernel
theorem dX2_darkCellsOf_15 : decode cX2_darkCellsOf 15 = .ok (.iload_n 1, 1) := by decide +kernel
theorem dX2_darkCellsOf_16 : decode cX2_darkCellsOf 16 = .ok (.iaload, 1) := by decide +kernel
theorem dX2_darkCellsOf_17 : decode cX2_darkCellsOf 17 = .ok (.iload_n 2, 1) := by decide +kernel
theorem dX2_darkCellsOf_18 : decode cX2_darkCellsOf 18 = .ok (.invokestatic 50, 3) := by decide +kernel
theorem dX2_darkCellsOf_21 : decode cX2_darkCellsOf 21 = .ok (.aload_n 0, 1) := by decide +kernel
theorem dX2_darkCellsOf_22 : decode cX2_darkCellsOf 22 = .ok (.getfield 21, 3) := by decide +kernel
theorem dX2_darkCellsOf_25 : decode cX2_darkCellsOf 25 = .ok (.iload_n 2, 1) := by decide +kernel
theorem dX2_darkCellsOf_26 : decode cX2_darkCellsOf 26 = .ok (.aload_n 0, 1) := by decide +kernel
theorem dX2_darkCellsOf_27 : decode cX2_darkCellsOf 27 = .ok (.getfield 12, 3) := by decide +kernel
theorem dX2_darkCellsOf_30 : decode cX2_darkCellsOf 30 = .ok (.getfield 39, 3) := by decide +kernel
theorem dX2_darkCellsOf_33 : decode cX2_darkCellsOf 33 = .ok (.iload_n 1, 1) := by decide +kernel
theorem dX2_darkCellsOf_34 : decode cX2_darkCellsOf 34 = .ok (.iaload, 1) := by decide +kernel
theorem dX2_darkCellsOf_35 : decode cX2_darkCellsOf 35 = .ok (.invokevirtual 54, 3) := by decide +kernel
theorem dX2_darkCellsOf_38 : decode cX2_darkCellsOf 38 = .ok (.iand, 1) := by decide +kernel
theorem dX2_darkCellsOf_39 : decode cX2_darkCellsOf 39 = .ok (.ireturn, 1) := by decide +kernel
theorem dX2_lonely_0 : decode cX2_lonely 0 = .ok (.iconst 0, 1) := by decide +kernel
theorem dX2_lonely_1 : decode cX2_lonely 1 = .ok (.istore_n 2, 1) := by decide +kernel
theorem dX2_lonely_2 : decode cX2_lonely 2 = .ok (.iconst 0, 1) := by decide +kernel
theorem dX2_lonely_3 : decode cX2_lonely 3 = .ok (.istore_n 3, 1) := by decide +kernel
theorem dX2_lonely_4 : decode cX2_lonely 4 = .ok (.iload_n 3, 1) := by decide +kernel
theorem dX2_lonely_5 : decode cX2_lonely 5 = .ok (.aload_n 0, 1) := by decide +kernel
theorem dX2_lonely_6 : decode cX2_lonely 6 = .ok (.getfield 12, 3) := by decide +kernel
theorem dX2_lonely_9 : decode cX2_lonely 9 = .ok (.getfield 25, 3) := by decide +kernel
theorem dX2_lonely_12 : decode cX2_lonely 12 = .ok (.if_icmp .ge 26, 3) := by decide +kernel
theorem dX2_lonely_15 : decode cX2_lonely 15 = .ok (.iload_n 2, 1) := by decide +kernel
theorem dX2_lonely_16 : decode cX2_lonely 16 = .ok (.aload_n 0, 1) := by decide +kernel
theorem dX2_lonely_17 : decode cX2_lonely 17 = .ok (.iload_n 3, 1) := by decide +kernel
theorem dX2_lonely_18 : decode cX2_lonely 18 = .ok (.iload_n 1, 1) := by decide +kernel
theorem dX2_lonely_19 : decode cX2_lonely 19 = .ok (.invokevirtual 58, 3) := by decide +kernel
theorem dX2_lonely_22 : decode cX2_lonely 22 = .ok (.ifCond .eq 7, 3) := by decide +kernel
theorem dX2_lonely_25 : decode cX2_lonely 25 = .ok (.iconst 1, 1) := by decide +kernel
theorem dX2_lonely_26 : decode cX2_lonely 26 = .ok (.goto 4, 3) := by decide +kernel
theorem dX2_lonely_29 : decode cX2_lonely 29 = .ok (.iconst 0, 1) := by decide +kernel
theorem dX2_lonely_30 : decode cX2_lonely 30 = .ok (.iadd, 1) := by decide +kernel
theorem dX2_lonely_31 : decode cX2_lonely 31 = .ok (.istore_n 2, 1) := by decide +kernel
theorem dX2_lonely_32 : decode cX2_lonely 32 = .ok (.iinc 3 1, 3) := by decide +kernel
theorem dX2_lonely_35 : decode cX2_lonely 35 = .ok (.goto (-31), 3) := by decide +kernel
theorem dX2_lonely_38 : decode cX2_lonely 38 = .ok (.iload_n 2, 1) := by decide +kernel
theorem dX2_lonely_39 : decode cX2_lonely 39 = .ok (.ireturn, 1) := by decide +kernel
theorem dX2_isLonely_0 : decode cX2_isLonely 0 = .ok (.aload_n 0, 1) := by decide +kernel
theorem dX2_isLonely_1 : decode cX2_isLonely 1 = .ok (.iload_n 1, 1) := by decide +kernel
theorem dX2_isLonely_2 : decode cX2_isLonely 2 = .ok (.iload_n 2, 1) := by decide +kernel
theorem dX2_isLonely_3 : decode cX2_isLonely 3 = .ok (.invokevirtual 62, 3) := by decide +kernel
theorem dX2_isLonely_6 : decode cX2_isLonely 6 = .ok (.istore_n 3, 1) := by decide +kernel
theorem dX2_isLonely_7 : decode cX2_isLonely 7 = .ok (.iload_n 3, 1) := by decide +kernel
theorem dX2_isLonely_8 : decode cX2_isLonely 8 = .ok (.ifCond .ne 5, 3) := by decide +kernel
theorem dX2_isLonely_11 : decode cX2_isLonely 11 = .ok (.iconst 0, 1) := by decide +kernel
theorem dX2_isLonely_12 : decode cX2_isLonely 12 = .ok (.ireturn, 1) := by decide +kernel
theorem dX2_isLonely_13 : decode cX2_isLonely 13 = .ok (.iconst 0, 1) := by decide +kernel
theorem dX2_isLonely_14 : decode cX2_isLonely 14 = .ok (.istore 4, 2) := by decide +kernel
theorem dX2_isLonely_16 : decode cX2_isLonely 16 = .ok (.iload 4, 2) := by decide +kernel
theorem dX2_isLonely_18 : decode cX2_isLonely 18 = .ok (.aload_n 0, 1) := by decide +kernel
theorem dX2_isLonely_19 : decode cX2_isLonely 19 = .ok (.getfield 12, 3) := by decide +kernel
theorem dX2_isLonely_22 : decode cX2_isLonely 22 = .ok (.getfield 25, 3) := by decide +kernel
theorem dX2_isLonely_25 : decode cX2_isLonely 25 = .ok (.if_icmp .ge 51, 3) := by decide +kernel
theorem dX2_isLonely_28 : decode cX2_isLonely 28 = .ok (.iload 4, 2) := by decide +kernel
theorem dX2_isLonely_30 : decode cX2_isLonely 30 = .ok (.iload_n 1, 1) := by decide +kernel
theorem dX2_isLonely_31 : decode cX2_isLonely 31 = .ok (.if_icmp .eq 39, 3) := by decide +kernel
theorem dX2_isLonely_34 : decode cX2_isLonely 34 = .ok (.aload_n 0, 1) := by decide +kernel
theorem dX2_isLonely_35 : decode cX2_isLonely 35 = .ok (.getfield 12, 3) := by decide +kernel
theorem dX2_isLonely_38 : decode cX2_isLonely 38 = .ok (.getfield 39, 3) := by decide +kernel
theorem dX2_isLonely_41 : decode cX2_isLonely 41 = .ok (.iload 4, 2) := by decide +kernel
theorem dX2_isLonely_43 : decode cX2_isLonely 43 = .ok (.iaload, 1) := by decide +kernel
theorem dX2_isLonely_44 : decode cX2_isLonely 44 = .ok (.aload_n 0, 1) := by decide +kernel
theorem dX2_isLonely_45 : decode cX2_isLonely 45 = .ok (.getfield 12, 3) := by decide +kernel
theorem dX2_isLonely_48 : decode cX2_isLonely 48 = .ok (.getfield 39, 3) := by decide +kernel
theorem dX2_isLonely_51 : decode cX2_isLonely 51 = .ok (.iload_n 1, 1) := by decide +kernel
theorem dX2_isLonely_52 : decode cX2_isLonely 52 = .ok (.iaload, 1) := by decide +kernel
theorem dX2_isLonely_53 : decode cX2_isLonely 53 = .ok (.if_icmp .ne 17, 3) := by decide +kernel
theorem dX2_isLonely_56 : decode cX2_isLonely 56 = .ok (.iload_n 3, 1) := by decide +kernel
theorem dX2_isLonely_57 : decode cX2_isLonely 57 = .ok (.aload_n 0, 1) := by decide +kernel
theorem dX2_isLonely_58 : decode cX2_isLonely 58 = .ok (.iload 4, 2) := by decide +kernel
theorem dX2_isLonely_60 : decode cX2_isLonely 60 = .ok (.iload_n 2, 1) := by decide +kernel
theorem dX2_isLonely_61 : decode cX2_isLonely 61 = .ok (.invokevirtual 62, 3) := by decide +kernel
theorem dX2_isLonely_64 : decode cX2_isLonely 64 = .ok (.iand, 1) := by decide +kernel
theorem dX2_isLonely_65 : decode cX2_isLonely 65 = .ok (.ifCond .eq 5, 3) := by decide +kernel
theorem dX2_isLonely_68 : decode cX2_isLonely 68 = .ok (.iconst 0, 1) := by decide +kernel
theorem dX2_isLonely_69 : decode cX2_isLonely 69 = .ok (.ireturn, 1) := by decide +kernel
theorem dX2_isLonely_70 : decode cX2_isLonely 70 = .ok (.iinc 4 1, 3) := by decide +kernel
theorem dX2_isLonely_73 : decode cX2_isLonely 73 = .ok (.goto (-57), 3) := by decide +kernel
theorem dX2_isLonely_76 : decode cX2_isLonely 76 = .ok (.iconst 1, 1) := by decide +kernel
theorem dX2_isLonely_77 : decode cX2_isLonely 77 = .ok (.ireturn, 1) := by decide +kernel
theorem dX2_hiddenCell_0 : decode cX2_hiddenCell 0 = .ok (.iconst 0, 1) := by decide +kernel
theorem dX2_hiddenCell_1 : decode cX2_hiddenCell 1 = .ok (.istore_n 2, 1) := by decide +kernel
theorem dX2_hiddenCell_2 : decode cX2_hiddenCell 2 = .ok (.iload_n 2, 1) := by decide +kernel
theorem dX2_hiddenCell_3 : decode cX2_hiddenCell 3 = .ok (.bipush 6, 2) := by decide +kernel
theorem dX2_hiddenCell_5 : decode cX2_hiddenCell 5 = .ok (.if_icmp .ge 95, 3) := by decide +kernel
theorem dX2_hiddenCell_8 : decode cX2_hiddenCell 8 = .ok (.aload_n 0, 1) := by decide +kernel
theorem dX2_hiddenCell_9 : decode cX2_hiddenCell 9 = .ok (.getfield 21, 3) := by decide +kernel
theorem dX2_hiddenCell_12 : decode cX2_hiddenCell 12 = .ok (.iload_n 1, 1) := by decide +kernel
theorem dX2_hiddenCell_13 : decode cX2_hiddenCell 13 = .ok (.iload_n 2, 1) := by decide +kernel
theorem dX2_hiddenCell_14 : decode cX2_hiddenCell 14 = .ok (.invokevirtual 54, 3) := by decide +kernel
theorem dX2_hiddenCell_17 : decode cX2_hiddenCell 17 = .ok (.aload_n 0, 1) := by decide +kernel
theorem dX2_hiddenCell_18 : decode cX2_hiddenCell 18 = .ok (.iload_n 1, 1) := by decide +kernel
theorem dX2_hiddenCell_19 : decode cX2_hiddenCell 19 = .ok (.iload_n 2, 1) := by decide +kernel
theorem dX2_hiddenCell_20 : decode cX2_hiddenCell 20 = .ok (.invokevirtual 65, 3) := by decide +kernel
theorem dX2_hiddenCell_23 : decode cX2_hiddenCell 23 = .ok (.iconst (-1), 1) := by decide +kernel
theorem dX2_hiddenCell_24 : decode cX2_hiddenCell 24 = .ok (.ixor, 1) := by decide +kernel
theorem dX2_hiddenCell_25 : decode cX2_hiddenCell 25 = .ok (.iand, 1) := by decide +kernel
theorem dX2_hiddenCell_26 : decode cX2_hiddenCell 26 = .ok (.istore_n 3, 1) := by decide +kernel
theorem dX2_hiddenCell_27 : decode cX2_hiddenCell 27 = .ok (.iload_n 3, 1) := by decide +kernel
theorem dX2_hiddenCell_28 : decode cX2_hiddenCell 28 = .ok (.aload_n 0, 1) := by decide +kernel
theorem dX2_hiddenCell_29 : decode cX2_hiddenCell 29 = .ok (.iload_n 2, 1) := by decide +kernel
theorem dX2_hiddenCell_30 : decode cX2_hiddenCell 30 = .ok (.invokevirtual 68, 3) := by decide +kernel
theorem dX2_hiddenCell_33 : decode cX2_hiddenCell 33 = .ok (.iand, 1) := by decide +kernel
theorem dX2_hiddenCell_34 : decode cX2_hiddenCell 34 = .ok (.istore 4, 2) := by decide +kernel
theorem dX2_hiddenCell_36 : decode cX2_hiddenCell 36 = .ok (.iconst 0, 1) := by decide +kernel
theorem dX2_hiddenCell_37 : decode cX2_hiddenCell 37 = .ok (.istore 5, 2) := by decide +kernel
theorem dX2_hiddenCell_39 : decode cX2_hiddenCell 39 = .ok (.iload 5, 2) := by decide +kernel
theorem dX2_hiddenCell_41 : decode cX2_hiddenCell 41 = .ok (.bipush 10, 2) := by decide +kernel
theorem dX2_hiddenCell_43 : decode cX2_hiddenCell 43 = .ok (.if_icmp .ge 51, 3) := by decide +kernel
theorem dX2_hiddenCell_46 : decode cX2_hiddenCell 46 = .ok (.getstatic 71, 3) := by decide +kernel
theorem dX2_hiddenCell_49 : decode cX2_hiddenCell 49 = .ok (.iconst 0, 1) := by decide +kernel
theorem dX2_hiddenCell_50 : decode cX2_hiddenCell 50 = .ok (.iaload, 1) := by decide +kernel
theorem dX2_hiddenCell_51 : decode cX2_hiddenCell 51 = .ok (.iload 5, 2) := by decide +kernel
theorem dX2_hiddenCell_53 : decode cX2_hiddenCell 53 = .ok (.iload_n 1, 1) := by decide +kernel
theorem dX2_hiddenCell_54 : decode cX2_hiddenCell 54 = .ok (.invokestatic 50, 3) := by decide +kernel
theorem dX2_hiddenCell_57 : decode cX2_hiddenCell 57 = .ok (.iload 4, 2) := by decide +kernel
theorem dX2_hiddenCell_59 : decode cX2_hiddenCell 59 = .ok (.iand, 1) := by decide +kernel
theorem dX2_hiddenCell_60 : decode cX2_hiddenCell 60 = .ok (.istore 6, 2) := by decide +kernel
theorem dX2_hiddenCell_62 : decode cX2_hiddenCell 62 = .ok (.iload 6, 2) := by decide +kernel
theorem dX2_hiddenCell_64 : decode cX2_hiddenCell 64 = .ok (.ifCond .ne 24, 3) := by decide +kernel
theorem dX2_hiddenCell_67 : decode cX2_hiddenCell 67 = .ok (.aload_n 0, 1) := by decide +kernel
theorem dX2_hiddenCell_68 : decode cX2_hiddenCell 68 = .ok (.getfield 12, 3) := by decide +kernel
theorem dX2_hiddenCell_71 : decode cX2_hiddenCell 71 = .ok (.iload 5, 2) := by decide +kernel
theorem dX2_hiddenCell_73 : decode cX2_hiddenCell 73 = .ok (.iload_n 2, 1) := by decide +kernel
theorem dX2_hiddenCell_74 : decode cX2_hiddenCell 74 = .ok (.invokevirtual 74, 3) := by decide +kernel
theorem dX2_hiddenCell_77 : decode cX2_hiddenCell 77 = .ok (.ifCond .ne 11, 3) := by decide +kernel
theorem dX2_hiddenCell_80 : decode cX2_hiddenCell 80 = .ok (.bipush 10, 2) := by decide +kernel
theorem dX2_hiddenCell_82 : decode cX2_hiddenCell 82 = .ok (.iload_n 2, 1) := by decide +kernel
theorem dX2_hiddenCell_83 : decode cX2_hiddenCell 83 = .ok (.imul, 1) := by decide +kernel
theorem dX2_hiddenCell_84 : decode cX2_hiddenCell 84 = .ok (.iload 5, 2) := by decide +kernel
theorem dX2_hiddenCell_86 : decode cX2_hiddenCell 86 = .ok (.iadd, 1) := by decide +kernel
theorem dX2_hiddenCell_87 : decode cX2_hiddenCell 87 = .ok (.ireturn, 1) := by decide +kernel
theorem dX2_hiddenCell_88 : decode cX2_hiddenCell 88 = .ok (.iinc 5 1, 3) := by decide +kernel
theorem dX2_hiddenCell_91 : decode cX2_hiddenCell 91 = .ok (.goto (-52), 3) := by decide +kernel
theorem dX2_hiddenCell_94 : decode cX2_hiddenCell 94 = .ok (.iinc 2 1, 3) := by decide +kernel
theorem dX2_hiddenCell_97 : decode cX2_hiddenCell 97 = .ok (.goto (-95), 3) := by decide +kernel
theorem dX2_hiddenCell_100 : decode cX2_hiddenCell 100 = .ok (.bipush (-9), 2) := by decide +kernel
theorem dX2_hiddenCell_102 : decode cX2_hiddenCell 102 = .ok (.ireturn, 1) := by decide +kernel
theorem dX2_watchedCells_0 : decode cX2_watchedCells 0 = .ok (.iconst 0, 1) := by decide +kernel
theorem dX2_watchedCells_1 : decode cX2_watchedCells 1 = .ok (.istore_n 2, 1) := by decide +kernel
theorem dX2_watchedCells_2 : decode cX2_watchedCells 2 = .ok (.iconst 0, 1) := by decide +kernel
theorem dX2_watchedCells_3 : decode cX2_watchedCells 3 = .ok (.istore_n 3, 1) := by decide +kernel
theorem dX2_watchedCells_4 : decode cX2_watchedCells 4 = .ok (.iload_n 3, 1) := by decide +kernel
theorem dX2_watchedCells_5 : decode cX2_watchedCells 5 = .ok (.aload_n 0, 1) := by decide +kernel
theorem dX2_watchedCells_6 : decode cX2_watchedCells 6 = .ok (.getfield 21, 3) := by decide +kernel
theorem dX2_watchedCells_9 : decode cX2_watchedCells 9 = .ok (.getfield 77, 3) := by decide +kernel
theorem dX2_watchedCells_12 : decode cX2_watchedCells 12 = .ok (.if_icmp .ge 21, 3) := by decide +kernel
theorem dX2_watchedCells_15 : decode cX2_watchedCells 15 = .ok (.iload_n 2, 1) := by decide +kernel
theorem dX2_watchedCells_16 : decode cX2_watchedCells 16 = .ok (.aload_n 0, 1) := by decide +kernel
theorem dX2_watchedCells_17 : decode cX2_watchedCells 17 = .ok (.getfield 21, 3) := by decide +kernel
theorem dX2_watchedCells_20 : decode cX2_watchedCells 20 = .ok (.iload_n 3, 1) := by decide +kernel
theorem dX2_watchedCells_21 : decode cX2_watchedCells 21 = .ok (.iload_n 1, 1) := by decide +kernel
theorem dX2_watchedCells_22 : decode cX2_watchedCells 22 = .ok (.invokevirtual 80, 3) := by decide +kernel
theorem dX2_watchedCells_25 : decode cX2_watchedCells 25 = .ok (.ior, 1) := by decide +kernel
theorem dX2_watchedCells_26 : decode cX2_watchedCells 26 = .ok (.istore_n 2, 1) := by decide +kernel
theorem dX2_watchedCells_27 : decode cX2_watchedCells 27 = .ok (.iinc 3 1, 3) := by decide +kernel
theorem dX2_watchedCells_30 : decode cX2_watchedCells 30 = .ok (.goto (-26), 3) := by decide +kernel
theorem dX2_watchedCells_33 : decode cX2_watchedCells 33 = .ok (.iload_n 2, 1) := by decide +kernel
theorem dX2_watchedCells_34 : decode cX2_watchedCells 34 = .ok (.ireturn, 1) := by decide +kernel
theorem dX3_init_0 : decode cX3_init 0 = .ok (.aload_n 0, 1) := by decide +kernel
theorem dX3_init_1 : decode cX3_init 1 = .ok (.invokespecial 3, 3) := by decide +kernel
theorem dX3_init_4 : decode cX3_init 4 = .ok (.aload_n 0, 1) := by decide +kernel
theorem dX3_init_5 : decode cX3_init 5 = .ok (.bipush 10, 2) := by decide +kernel
theorem dX3_init_7 : decode cX3_init 7 = .ok (.newarray .long, 2) := by decide +kernel
theorem dX3_init_9 : decode cX3_init 9 = .ok (.putfield 9, 3) := by decide +kernel
theorem dX3_init_12 : decode cX3_init 12 = .ok (.aload_n 0, 1) := by decide +kernel
theorem dX3_init_13 : decode cX3_init 13 = .ok (.bipush 10, 2) := by decide +kernel
theorem dX3_init_15 : decode cX3_init 15 = .ok (.newarray .long, 2) := by decide +kernel
theorem dX3_init_17 : decode cX3_init 17 = .ok (.putfield 15, 3) := by decide +kernel
theorem dX3_init_20 : decode cX3_init 20 = .ok (.aload_n 0, 1) := by decide +kernel
theorem dX3_init_21 : decode cX3_init 21 = .ok (.bipush 10, 2) := by decide +kernel
theorem dX3_init_23 : decode cX3_init 23 = .ok (.newarray .int, 2) := by decide +kernel
theorem dX3_init_25 : decode cX3_init 25 = .ok (.putfield 18, 3) := by decide +kernel
theorem dX3_init_28 : decode cX3_init 28 = .ok (.aload_n 0, 1) := by decide +kernel
theorem dX3_init_29 : decode cX3_init 29 = .ok (.bipush 11, 2) := by decide +kernel
theorem dX3_init_31 : decode cX3_init 31 = .ok (.newarray .long, 2) := by decide +kernel
theorem dX3_init_33 : decode cX3_init 33 = .ok (.putfield 22, 3) := by decide +kernel
theorem dX3_init_36 : decode cX3_init 36 = .ok (.aload_n 0, 1) := by decide +kernel
theorem dX3_init_37 : decode cX3_init 37 = .ok (.bipush 11, 2) := by decide +kernel
theorem dX3_init_39 : decode cX3_init 39 = .ok (.newarray .int, 2) := by decide +kernel
theorem dX3_init_41 : decode cX3_init 41 = .ok (.putfield 25, 3) := by decide +kernel
theorem dX3_init_44 : decode cX3_init 44 = .ok (.aload_n 0, 1) := by decide +kernel
theorem dX3_init_45 : decode cX3_init 45 = .ok (.bipush 10, 2) := by decide +kernel
theorem dX3_init_47 : decode cX3_init 47 = .ok (.newarray .int, 2) := by decide +kernel
theorem dX3_init_49 : decode cX3_init 49 = .ok (.putfield 28, 3) := by decide +kernel
theorem dX3_init_52 : decode cX3_init 52 = .ok (.aload_n 0, 1) := by decide +kernel
theorem dX3_init_53 : decode cX3_init 53 = .ok (.bipush 10, 2) := by decide +kernel
theorem dX3_init_55 : decode cX3_init 55 = .ok (.newarray .int, 2) := by decide +kernel
theorem dX3_init_57 : decode cX3_init 57 = .ok (.putfield 31, 3) := by decide +kernel
theorem dX3_init_60 : decode cX3_init 60 = .ok (.return_, 1) := by decide +kernel
theorem dX3_prepare_0 : decode cX3_prepare 0 = .ok (.aload_n 0, 1) := by decide +kernel
theorem dX3_prepare_1 : decode cX3_prepare 1 = .ok (.lconst 0, 1) := by decide +kernel
theorem dX3_prepare_2 : decode cX3_prepare 2 = .ok (.putfield 34, 3) := by decide +kernel
theorem dX3_prepare_5 : decode cX3_prepare 5 = .ok (.iconst 0, 1) := by decide +kernel
theorem dX3_prepare_6 : decode cX3_prepare 6 = .ok (.istore_n 2, 1) := by decide +kernel
theorem dX3_prepare_7 : decode cX3_prepare 7 = .ok (.iload_n 2, 1) := by decide +kernel
theorem dX3_prepare_8 : decode cX3_prepare 8 = .ok (.aload_n 1, 1) := by decide +kernel
theorem dX3_prepare_9 : decode cX3_prepare 9 = .ok (.getfield 38, 3) := by decide +kernel
theorem dX3_prepare_12 : decode cX3_prepare 12 = .ok (.if_icmp .ge 28, 3) := by decide +kernel
theorem dX3_prepare_15 : decode cX3_prepare 15 = .ok (.aload_n 0, 1) := by decide +kernel
theorem dX3_prepare_16 : decode cX3_prepare 16 = .ok (.aload_n 0, 1) := by decide +kernel
theorem dX3_prepare_17 : decode cX3_prepare 17 = .ok (.getfield 34, 3) := by decide +kernel
theorem dX3_prepare_20 : decode cX3_prepare 20 = .ok (.bipush 10, 2) := by decide +kernel
theorem dX3_prepare_22 : decode cX3_prepare 22 = .ok (.lshl, 1) := by decide +kernel
theorem dX3_prepare_23 : decode cX3_prepare 23 = .ok (.aload_n 1, 1) := by decide +kernel
theorem dX3_prepare_24 : decode cX3_prepare 24 = .ok (.getfield 44, 3) := by decide +kernel
theorem dX3_prepare_27 : decode cX3_prepare 27 = .ok (.iload_n 2, 1) := by decide +kernel
theorem dX3_prepare_28 : decode cX3_prepare 28 = .ok (.iaload, 1) := by decide +kernel
theorem dX3_prepare_29 : decode cX3_prepare 29 = .ok (.i2l, 1) := by decide +kernel
theorem dX3_prepare_30 : decode cX3_prepare 30 = .ok (.lor, 1) := by decide +kernel
theorem dX3_prepare_31 : decode cX3_prepare 31 = .ok (.putfield 34, 3) := by decide +kernel
theorem dX3_prepare_34 : decode cX3_prepare 34 = .ok (.iinc 2 1, 3) := by decide +kernel
theorem dX3_prepare_37 : decode cX3_prepare 37 = .ok (.goto (-30), 3) := by decide +kernel
theorem dX3_prepare_40 : decode cX3_prepare 40 = .ok (.aload_n 0, 1) := by decide +kernel
theorem dX3_prepare_41 : decode cX3_prepare 41 = .ok (.getfield 22, 3) := by decide +kernel
theorem dX3_prepare_44 : decode cX3_prepare 44 = .ok (.bipush 10, 2) := by decide +kernel
theorem dX3_prepare_46 : decode cX3_prepare 46 = .ok (.lconst 0, 1) := by decide +kernel
theorem dX3_prepare_47 : decode cX3_prepare 47 = .ok (.lastore, 1) := by decide +kernel
theorem dX3_prepare_48 : decode cX3_prepare 48 = .ok (.aload_n 0, 1) := by decide +kernel
theorem dX3_prepare_49 : decode cX3_prepare 49 = .ok (.getfield 25, 3) := by decide +kernel
theorem dX3_prepare_52 : decode cX3_prepare 52 = .ok (.bipush 10, 2) := by decide +kernel
theorem dX3_prepare_54 : decode cX3_prepare 54 = .ok (.iconst 1, 1) := by decide +kernel
theorem dX3_prepare_55 : decode cX3_prepare 55 = .ok (.iastore, 1) := by decide +kernel
theorem dX3_prepare_56 : decode cX3_prepare 56 = .ok (.bipush 9, 2) := by decide +kernel
theorem dX3_prepare_58 : decode cX3_prepare 58 = .ok (.istore_n 2, 1) := by decide +kernel
theorem dX3_prepare_59 : decode cX3_prepare 59 = .ok (.iload_n 2, 1) := by decide +kernel
theorem dX3_prepare_60 : decode cX3_prepare 60 = .ok (.ifCond .lt 115, 3) := by decide +kernel
theorem dX3_prepare_63 : decode cX3_prepare 63 = .ok (.aload_n 0, 1) := by decide +kernel
theorem dX3_prepare_64 : decode cX3_prepare 64 = .ok (.getfield 9, 3) := by decide +kernel
theorem dX3_prepare_67 : decode cX3_prepare 67 = .ok (.iload_n 2, 1) := by decide +kernel
theorem dX3_prepare_68 : decode cX3_prepare 68 = .ok (.iconst 1, 1) := by decide +kernel
theorem dX3_prepare_69 : decode cX3_prepare 69 = .ok (.iload_n 2, 1) := by decide +kernel
theorem dX3_prepare_70 : decode cX3_prepare 70 = .ok (.aload_n 1, 1) := by decide +kernel
theorem dX3_prepare_71 : decode cX3_prepare 71 = .ok (.invokestatic 47, 3) := by decide +kernel
theorem dX3_prepare_74 : decode cX3_prepare 74 = .ok (.lastore, 1) := by decide +kernel
theorem dX3_prepare_75 : decode cX3_prepare 75 = .ok (.aload_n 0, 1) := by decide +kernel
theorem dX3_prepare_76 : decode cX3_prepare 76 = .ok (.getfield 15, 3) := by decide +kernel
theorem dX3_prepare_79 : decode cX3_prepare 79 = .ok (.iload_n 2, 1) := by decide +kernel
theorem dX3_prepare_80 : decode cX3_prepare 80 = .ok (.iconst 0, 1) := by decide +kernel
theorem dX3_prepare_81 : decode cX3_prepare 81 = .ok (.iload_n 2, 1) := by decide +kernel
theorem dX3_prepare_82 : decode cX3_prepare 82 = .ok (.aload_n 1, 1) := by decide +kernel
theorem dX3_prepare_83 : decode cX3_prepare 83 = .ok (.invokestatic 47, 3) := by decide +kernel
theorem dX3_prepare_86 : decode cX3_prepare 86 = .ok (.lastore, 1) := by decide +kernel
theorem dX3_prepare_87 : decode cX3_prepare 87 = .ok (.aload_n 0, 1) := by decide +kernel
theorem dX3_prepare_88 : decode cX3_prepare 88 = .ok (.getfield 18, 3) := by decide +kernel
theorem dX3_prepare_91 : decode cX3_prepare 91 = .ok (.iload_n 2, 1) := by decide +kernel
theorem dX3_prepare_92 : decode cX3_prepare 92 = .ok (.aload_n 0, 1) := by decide +kernel
theorem dX3_prepare_93 : decode cX3_prepare 93 = .ok (.aload_n 0, 1) := by decide +kernel
theorem dX3_prepare_94 : decode cX3_prepare 94 = .ok (.getfield 15, 3) := by decide +kernel
theorem dX3_prepare_97 : decode cX3_prepare 97 = .ok (.iload_n 2, 1) := by decide +kernel
theorem dX3_prepare_98 : decode cX3_prepare 98 = .ok (.laload, 1) := by decide +kernel
theorem dX3_prepare_99 : decode cX3_prepare 99 = .ok (.invokevirtual 51, 3) := by decide +kernel
theorem dX3_prepare_102 : decode cX3_prepare 102 = .ok (.ifCond .eq 7, 3) := by decide +kernel
theorem dX3_prepare_105 : decode cX3_prepare 105 = .ok (.iconst 3, 1) := by decide +kernel
theorem dX3_prepare_106 : decode cX3_prepare 106 = .ok (.goto 21, 3) := by decide +kernel
theorem dX3_prepare_109 : decode cX3_prepare 109 = .ok (.aload_n 0, 1) := by decide +kernel
theorem dX3_prepare_110 : decode cX3_prepare 110 = .ok (.aload_n 0, 1) := by decide +kernel
theorem dX3_prepare_111 : decode cX3_prepare 111 = .ok (.getfield 9, 3) := by decide +kernel
theorem dX3_prepare_114 : decode cX3_prepare 114 = .ok (.iload_n 2, 1) := by decide +kernel
theorem dX3_prepare_115 : decode cX3_prepare 115 = .ok (.laload, 1) := by decide +kernel
theorem dX3_prepare_116 : decode cX3_prepare 116 = .ok (.invokevirtual 51, 3) := by decide +kernel
theorem dX3_prepare_119 : decode cX3_prepare 119 = .ok (.ifCond .eq 7, 3) := by decide +kernel
theorem dX3_prepare_122 : decode cX3_prepare 122 = .ok (.iconst 2, 1) := by decide +kernel
theorem dX3_prepare_123 : decode cX3_prepare 123 = .ok (.goto 4, 3) := by decide +kernel
theorem dX3_prepare_126 : decode cX3_prepare 126 = .ok (.iconst 1, 1) := by decide +kernel
theorem dX3_prepare_127 : decode cX3_prepare 127 = .ok (.iastore, 1) := by decide +kernel
theorem dX3_prepare_128 : decode cX3_prepare 128 = .ok (.aload_n 0, 1) := by decide +kernel
theorem dX3_prepare_129 : decode cX3_prepare 129 = .ok (.getfield 22, 3) := by decide +kernel
theorem dX3_prepare_132 : decode cX3_prepare 132 = .ok (.iload_n 2, 1) := by decide +kernel
theorem dX3_prepare_133 : decode cX3_prepare 133 = .ok (.aload_n 0, 1) := by decide +kernel
theorem dX3_prepare_134 : decode cX3_prepare 134 = .ok (.getfield 22, 3) := by decide +kernel
theorem dX3_prepare_137 : decode cX3_prepare 137 = .ok (.iload_n 2, 1) := by decide +kernel
theorem dX3_prepare_138 : decode cX3_prepare 138 = .ok (.iconst 1, 1) := by decide +kernel
theorem dX3_prepare_139 : decode cX3_prepare 139 = .ok (.iadd, 1) := by decide +kernel
theorem dX3_prepare_140 : decode cX3_prepare 140 = .ok (.laload, 1) := by decide +kernel
theorem dX3_prepare_141 : decode cX3_prepare 141 = .ok (.aload_n 0, 1) := by decide +kernel
theorem dX3_prepare_142 : decode cX3_prepare 142 = .ok (.iload_n 2, 1) := by decide +kernel
theorem dX3_prepare_143 : decode cX3_prepare 143 = .ok (.invokevirtual 55, 3) := by decide +kernel
theorem dX3_prepare_146 : decode cX3_prepare 146 = .ok (.lor, 1) := by decide +kernel
theorem dX3_prepare_147 : decode cX3_prepare 147 = .ok (.lastore, 1) := by decide +kernel
theorem dX3_prepare_148 : decode cX3_prepare 148 = .ok (.aload_n 0, 1) := by decide +kernel
theorem dX3_prepare_149 : decode cX3_prepare 149 = .ok (.getfield 25, 3) := by decide +kernel
theorem dX3_prepare_152 : decode cX3_prepare 152 = .ok (.iload_n 2, 1) := by decide +kernel
theorem dX3_prepare_153 : decode cX3_prepare 153 = .ok (.aload_n 0, 1) := by decide +kernel
theorem dX3_prepare_154 : decode cX3_prepare 154 = .ok (.getfield 25, 3) := by decide +kernel
theorem dX3_prepare_157 : decode cX3_prepare 157 = .ok (.iload_n 2, 1) := by decide +kernel
theorem dX3_prepare_158 : decode cX3_prepare 158 = .ok (.iconst 1, 1) := by decide +kernel
theorem dX3_prepare_159 : decode cX3_prepare 159 = .ok (.iadd, 1) := by decide +kernel
theorem dX3_prepare_160 : decode cX3_prepare 160 = .ok (.iaload, 1) := by decide +kernel
theorem dX3_prepare_161 : decode cX3_prepare 161 = .ok (.aload_n 0, 1) := by decide +kernel
theorem dX3_prepare_162 : decode cX3_prepare 162 = .ok (.getfield 18, 3) := by decide +kernel
theorem dX3_prepare_165 : decode cX3_prepare 165 = .ok (.iload_n 2, 1) := by decide +kernel
theorem dX3_prepare_166 : decode cX3_prepare 166 = .ok (.iaload, 1) := by decide +kernel
theorem dX3_prepare_167 : decode cX3_prepare 167 = .ok (.imul, 1) := by decide +kernel
theorem dX3_prepare_168 : decode cX3_prepare 168 = .ok (.iastore, 1) := by decide +kernel
theorem dX3_prepare_169 : decode cX3_prepare 169 = .ok (.iinc 2 (-1), 3) := by decide +kernel
theorem dX3_prepare_172 : decode cX3_prepare 172 = .ok (.goto (-113), 3) := by decide +kernel
theorem dX3_prepare_175 : decode cX3_prepare 175 = .ok (.return_, 1) := by decide +kernel
theorem dX3_shadowsOf_0 : decode cX3_shadowsOf 0 = .ok (.lconst 0, 1) := by decide +kernel
theorem dX3_shadowsOf_1 : decode cX3_shadowsOf 1 = .ok (.lstore_n 3, 1) := by decide +kernel
theorem dX3_shadowsOf_2 : decode cX3_shadowsOf 2 = .ok (.iconst 0, 1) := by decide +kernel
theorem dX3_shadowsOf_3 : decode cX3_shadowsOf 3 = .ok (.istore 5, 2) := by decide +kernel
theorem dX3_shadowsOf_5 : decode cX3_shadowsOf 5 = .ok (.iload 5, 2) := by decide +kernel
theorem dX3_shadowsOf_7 : decode cX3_shadowsOf 7 = .ok (.aload_n 2, 1) := by decide +kernel
theorem dX3_shadowsOf_8 : decode cX3_shadowsOf 8 = .ok (.getfield 38, 3) := by decide +kernel
theorem dX3_shadowsOf_11 : decode cX3_shadowsOf 11 = .ok (.if_icmp .ge 32, 3) := by decide +kernel
theorem dX3_shadowsOf_14 : decode cX3_shadowsOf 14 = .ok (.lload_n 3, 1) := by decide +kernel
theorem dX3_shadowsOf_15 : decode cX3_shadowsOf 15 = .ok (.bipush 10, 2) := by decide +kernel
theorem dX3_shadowsOf_17 : decode cX3_shadowsOf 17 = .ok (.lshl, 1) := by decide +kernel
theorem dX3_shadowsOf_18 : decode cX3_shadowsOf 18 = .ok (.getstatic 59, 3) := by decide +kernel
theorem dX3_shadowsOf_21 : decode cX3_shadowsOf 21 = .ok (.iload_n 0, 1) := by decide +kernel
theorem dX3_shadowsOf_22 : decode cX3_shadowsOf 22 = .ok (.iaload, 1) := by decide +kernel
theorem dX3_shadowsOf_23 : decode cX3_shadowsOf 23 = .ok (.iload_n 1, 1) := by decide +kernel
theorem dX3_shadowsOf_24 : decode cX3_shadowsOf 24 = .ok (.aload_n 2, 1) := by decide +kernel
theorem dX3_shadowsOf_25 : decode cX3_shadowsOf 25 = .ok (.getfield 62, 3) := by decide +kernel
theorem dX3_shadowsOf_28 : decode cX3_shadowsOf 28 = .ok (.iload 5, 2) := by decide +kernel
theorem dX3_shadowsOf_30 : decode cX3_shadowsOf 30 = .ok (.iaload, 1) := by decide +kernel
theorem dX3_shadowsOf_31 : decode cX3_shadowsOf 31 = .ok (.invokestatic 65, 3) := by decide +kernel
theorem dX3_shadowsOf_34 : decode cX3_shadowsOf 34 = .ok (.i2l, 1) := by decide +kernel
theorem dX3_shadowsOf_35 : decode cX3_shadowsOf 35 = .ok (.lor, 1) := by decide +kernel
theorem dX3_shadowsOf_36 : decode cX3_shadowsOf 36 = .ok (.lstore_n 3, 1) := by decide +kernel
theorem dX3_shadowsOf_37 : decode cX3_shadowsOf 37 = .ok (.iinc 5 1, 3) := by decide +kernel
theorem dX3_shadowsOf_40 : decode cX3_shadowsOf 40 = .ok (.goto (-35), 3) := by decide +kernel
theorem dX3_shadowsOf_43 : decode cX3_shadowsOf 43 = .ok (.lload_n 3, 1) := by decide +kernel
theorem dX3_shadowsOf_44 : decode cX3_shadowsOf 44 = .ok (.lreturn, 1) := by decide +kernel
theorem dX3_mayStand_0 : decode cX3_mayStand 0 = .ok (.lload_n 1, 1) := by decide +kernel
theorem dX3_mayStand_1 : decode cX3_mayStand 1 = .ok (.aload_n 0, 1) := by decide +kernel
theorem dX3_mayStand_2 : decode cX3_mayStand 2 = .ok (.getfield 34, 3) := by decide +kernel
theorem dX3_mayStand_5 : decode cX3_mayStand 5 = .ok (.ldc2_w 69, 3) := by decide +kernel
theorem dX3_mayStand_8 : decode cX3_mayStand 8 = .ok (.lxor, 1) := by decide +kernel
theorem dX3_mayStand_9 : decode cX3_mayStand 9 = .ok (.land, 1) := by decide +kernel
theorem dX3_mayStand_10 : decode cX3_mayStand 10 = .ok (.lconst 0, 1) := by decide +kernel
theorem dX3_mayStand_11 : decode cX3_mayStand 11 = .ok (.lcmp, 1) := by decide +kernel
theorem dX3_mayStand_12 : decode cX3_mayStand 12 = .ok (.ifCond .ne 7, 3) := by decide +kernel
theorem dX3_mayStand_15 : decode cX3_mayStand 15 = .ok (.iconst 1, 1) := by decide +kernel
theorem dX3_mayStand_16 : decode cX3_mayStand 16 = .ok (.goto 4, 3) := by decide +kernel
theorem dX3_mayStand_19 : decode cX3_mayStand 19 = .ok (.iconst 0, 1) := by decide +kernel
theorem dX3_mayStand_20 : decode cX3_mayStand 20 = .ok (.ireturn, 1) := by decide +kernel
theorem dX3_tallest_0 : decode cX3_tallest 0 = .ok (.aload_n 0, 1) := by decide +kernel
theorem dX3_tallest_1 : decode cX3_tallest 1 = .ok (.getfield 18, 3) := by decide +kernel
theorem dX3_tallest_4 : decode cX3_tallest 4 = .ok (.iload_n 1, 1) := by decide +kernel
theorem dX3_tallest_5 : decode cX3_tallest 5 = .ok (.iaload, 1) := by decide +kernel
theorem dX3_tallest_6 : decode cX3_tallest 6 = .ok (.iconst 3, 1) := by decide +kernel
theorem dX3_tallest_7 : decode cX3_tallest 7 = .ok (.if_icmp .ne 12, 3) := by decide +kernel
theorem dX3_tallest_10 : decode cX3_tallest 10 = .ok (.aload_n 0, 1) := by decide +kernel
theorem dX3_tallest_11 : decode cX3_tallest 11 = .ok (.getfield 15, 3) := by decide +kernel
theorem dX3_tallest_14 : decode cX3_tallest 14 = .ok (.iload_n 1, 1) := by decide +kernel
theorem dX3_tallest_15 : decode cX3_tallest 15 = .ok (.laload, 1) := by decide +kernel
theorem dX3_tallest_16 : decode cX3_tallest 16 = .ok (.goto 23, 3) := by decide +kernel
theorem dX3_tallest_19 : decode cX3_tallest 19 = .ok (.aload_n 0, 1) := by decide +kernel
theorem dX3_tallest_20 : decode cX3_tallest 20 = .ok (.getfield 18, 3) := by decide +kernel
theorem dX3_tallest_23 : decode cX3_tallest 23 = .ok (.iload_n 1, 1) := by decide +kernel
theorem dX3_tallest_24 : decode cX3_tallest 24 = .ok (.iaload, 1) := by decide +kernel
theorem dX3_tallest_25 : decode cX3_tallest 25 = .ok (.iconst 2, 1) := by decide +kernel
theorem dX3_tallest_26 : decode cX3_tallest 26 = .ok (.if_icmp .ne 12, 3) := by decide +kernel
theorem dX3_tallest_29 : decode cX3_tallest 29 = .ok (.aload_n 0, 1) := by decide +kernel
theorem dX3_tallest_30 : decode cX3_tallest 30 = .ok (.getfield 9, 3) := by decide +kernel
theorem dX3_tallest_33 : decode cX3_tallest 33 = .ok (.iload_n 1, 1) := by decide +kernel
theorem dX3_tallest_34 : decode cX3_tallest 34 = .ok (.laload, 1) := by decide +kernel
theorem dX3_tallest_35 : decode cX3_tallest 35 = .ok (.goto 4, 3) := by decide +kernel
theorem dX3_tallest_38 : decode cX3_tallest 38 = .ok (.lconst 0, 1) := by decide +kernel
theorem dX3_tallest_39 : decode cX3_tallest 39 = .ok (.lreturn, 1) := by decide +kernel
theorem dX3_exist_0 : decode cX3_exist 0 = .ok (.aload_n 0, 1) := by decide +kernel
theorem dX3_exist_1 : decode cX3_exist 1 = .ok (.getfield 22, 3) := by decide +kernel
theorem dX3_exist_4 : decode cX3_exist 4 = .ok (.iconst 0, 1) := by decide +kernel
theorem dX3_exist_5 : decode cX3_exist 5 = .ok (.laload, 1) := by decide +kernel
theorem dX3_exist_6 : decode cX3_exist 6 = .ok (.aload_n 0, 1) := by decide +kernel
theorem dX3_exist_7 : decode cX3_exist 7 = .ok (.getfield 34, 3) := by decide +kernel
theorem dX3_exist_10 : decode cX3_exist 10 = .ok (.lcmp, 1) := by decide +kernel
theorem dX3_exist_11 : decode cX3_exist 11 = .ok (.ifCond .ne 7, 3) := by decide +kernel
theorem dX3_exist_14 : decode cX3_exist 14 = .ok (.iconst 1, 1) := by decide +kernel
theorem dX3_exist_15 : decode cX3_exist 15 = .ok (.goto 4, 3) := by decide +kernel
theorem dX3_exist_18 : decode cX3_exist 18 = .ok (.iconst 0, 1) := by decide +kernel
theorem dX3_exist_19 : decode cX3_exist 19 = .ok (.ireturn, 1) := by decide +kernel
theorem dX3_number_0 : decode cX3_number 0 = .ok (.aload_n 0, 1) := by decide +kernel
theorem dX3_number_1 : decode cX3_number 1 = .ok (.iconst 0, 1) := by decide +kernel
theorem dX3_number_2 : decode cX3_number 2 = .ok (.lconst 0, 1) := by decide +kernel
theorem dX3_number_3 : decode cX3_number 3 = .ok (.invokestatic 71, 3) := by decide +kernel
theorem dX3_number_6 : decode cX3_number 6 = .ok (.ireturn, 1) := by decide +kernel
theorem dX3_waysToFill_0 : decode cX3_waysToFill 0 = .ok (.iload_n 1, 1) := by decide +kernel
theorem dX3_waysToFill_1 : decode cX3_waysToFill 1 = .ok (.bipush 11, 2) := by decide +kernel
theorem dX3_waysToFill_3 : decode cX3_waysToFill 3 = .ok (.invokestatic 75, 3) := by decide +kernel
theorem dX3_waysToFill_6 : decode cX3_waysToFill 6 = .ok (.ifCond .eq 19, 3) := by decide +kernel
theorem dX3_waysToFill_9 : decode cX3_waysToFill 9 = .ok (.lload_n 2, 1) := by decide +kernel
theorem dX3_waysToFill_10 : decode cX3_waysToFill 10 = .ok (.aload_n 0, 1) := by decide +kernel
theorem dX3_waysToFill_11 : decode cX3_waysToFill 11 = .ok (.getfield 22, 3) := by decide +kernel
theorem dX3_waysToFill_14 : decode cX3_waysToFill 14 = .ok (.iload_n 1, 1) := by decide +kernel
theorem dX3_waysToFill_15 : decode cX3_waysToFill 15 = .ok (.laload, 1) := by decide +kernel
theorem dX3_waysToFill_16 : decode cX3_waysToFill 16 = .ok (.lor, 1) := by decide +kernel
theorem dX3_waysToFill_17 : decode cX3_waysToFill 17 = .ok (.aload_n 0, 1) := by decide +kernel
theorem dX3_waysToFill_18 : decode cX3_waysToFill 18 = .ok (.getfield 34, 3) := by decide +kernel
theorem dX3_waysToFill_21 : decode cX3_waysToFill 21 = .ok (.lcmp, 1) := by decide +kernel
theorem dX3_waysToFill_22 : decode cX3_waysToFill 22 = .ok (.ifCond .eq 5, 3) := by decide +kernel
theorem dX3_waysToFill_25 : decode cX3_waysToFill 25 = .ok (.iconst 0, 1) := by decide +kernel
theorem dX3_waysToFill_26 : decode cX3_waysToFill 26 = .ok (.ireturn, 1) := by decide +kernel
theorem dX3_waysToFill_27 : decode cX3_waysToFill 27 = .ok (.lload_n 2, 1) := by decide +kernel
theorem dX3_waysToFill_28 : decode cX3_waysToFill 28 = .ok (.aload_n 0, 1) := by decide +kernel
theorem dX3_waysToFill_29 : decode cX3_waysToFill 29 = .ok (.getfield 34, 3) := by decide +kernel
theorem dX3_waysToFill_32 : decode cX3_waysToFill 32 = .ok (.lcmp, 1) := by decide +kernel
theorem dX3_waysToFill_33 : decode cX3_waysToFill 33 = .ok (.ifCond .ne 10, 3) := by decide +kernel
theorem dX3_waysToFill_36 : decode cX3_waysToFill 36 = .ok (.aload_n 0, 1) := by decide +kernel
theorem dX3_waysToFill_37 : decode cX3_waysToFill 37 = .ok (.getfield 25, 3) := by decide +kernel
theorem dX3_waysToFill_40 : decode cX3_waysToFill 40 = .ok (.iload_n 1, 1) := by decide +kernel
theorem dX3_waysToFill_41 : decode cX3_waysToFill 41 = .ok (.iaload, 1) := by decide +kernel
theorem dX3_waysToFill_42 : decode cX3_waysToFill 42 = .ok (.ireturn, 1) := by decide +kernel
theorem dX3_waysToFill_43 : decode cX3_waysToFill 43 = .ok (.aload_n 0, 1) := by decide +kernel
theorem dX3_waysToFill_44 : decode cX3_waysToFill 44 = .ok (.iload_n 1, 1) := by decide +kernel
theorem dX3_waysToFill_45 : decode cX3_waysToFill 45 = .ok (.iconst 1, 1) := by decide +kernel
theorem dX3_waysToFill_46 : decode cX3_waysToFill 46 = .ok (.iadd, 1) := by decide +kernel
theorem dX3_waysToFill_47 : decode cX3_waysToFill 47 = .ok (.lload_n 2, 1) := by decide +kernel
theorem dX3_waysToFill_48 : decode cX3_waysToFill 48 = .ok (.invokestatic 71, 3) := by decide +kernel
theorem dX3_waysToFill_51 : decode cX3_waysToFill 51 = .ok (.istore 4, 2) := by decide +kernel
theorem dX3_waysToFill_53 : decode cX3_waysToFill 53 = .ok (.iload_n 1, 1) := by decide +kernel
theorem dX3_waysToFill_54 : decode cX3_waysToFill 54 = .ok (.bipush 10, 2) := by decide +kernel
theorem dX3_waysToFill_56 : decode cX3_waysToFill 56 = .ok (.if_icmp .ge 33, 3) := by decide +kernel
theorem dX3_waysToFill_59 : decode cX3_waysToFill 59 = .ok (.aload_n 0, 1) := by decide +kernel
theorem dX3_waysToFill_60 : decode cX3_waysToFill 60 = .ok (.getfield 18, 3) := by decide +kernel
theorem dX3_waysToFill_63 : decode cX3_waysToFill 63 = .ok (.iload_n 1, 1) := by decide +kernel
theorem dX3_waysToFill_64 : decode cX3_waysToFill 64 = .ok (.iaload, 1) := by decide +kernel
theorem dX3_waysToFill_65 : decode cX3_waysToFill 65 = .ok (.iconst 2, 1) := by decide +kernel
theorem dX3_waysToFill_66 : decode cX3_waysToFill 66 = .ok (.if_icmp .lt 23, 3) := by decide +kernel
theorem dX3_waysToFill_69 : decode cX3_waysToFill 69 = .ok (.iload 4, 2) := by decide +kernel
theorem dX3_waysToFill_71 : decode cX3_waysToFill 71 = .ok (.aload_n 0, 1) := by decide +kernel
theorem dX3_waysToFill_72 : decode cX3_waysToFill 72 = .ok (.iload_n 1, 1) := by decide +kernel
theorem dX3_waysToFill_73 : decode cX3_waysToFill 73 = .ok (.iconst 1, 1) := by decide +kernel
theorem dX3_waysToFill_74 : decode cX3_waysToFill 74 = .ok (.iadd, 1) := by decide +kernel
theorem dX3_waysToFill_75 : decode cX3_waysToFill 75 = .ok (.lload_n 2, 1) := by decide +kernel
theorem dX3_waysToFill_76 : decode cX3_waysToFill 76 = .ok (.aload_n 0, 1) := by decide +kernel
theorem dX3_waysToFill_77 : decode cX3_waysToFill 77 = .ok (.getfield 9, 3) := by decide +kernel
theorem dX3_waysToFill_80 : decode cX3_waysToFill 80 = .ok (.iload_n 1, 1) := by decide +kernel
theorem dX3_waysToFill_81 : decode cX3_waysToFill 81 = .ok (.laload, 1) := by decide +kernel
theorem dX3_waysToFill_82 : decode cX3_waysToFill 82 = .ok (.lor, 1) := by decide +kernel
theorem dX3_waysToFill_83 : decode cX3_waysToFill 83 = .ok (.invokestatic 71, 3) := by decide +kernel
theorem dX3_waysToFill_86 : decode cX3_waysToFill 86 = .ok (.iadd, 1) := by decide +kernel
theorem dX3_waysToFill_87 : decode cX3_waysToFill 87 = .ok (.istore 4, 2) := by decide +kernel
theorem dX3_waysToFill_89 : decode cX3_waysToFill 89 = .ok (.iload_n 1, 1) := by decide +kernel
theorem dX3_waysToFill_90 : decode cX3_waysToFill 90 = .ok (.bipush 10, 2) := by decide +kernel
theorem dX3_waysToFill_92 : decode cX3_waysToFill 92 = .ok (.if_icmp .ge 33, 3) := by decide +kernel
theorem dX3_waysToFill_95 : decode cX3_waysToFill 95 = .ok (.aload_n 0, 1) := by decide +kernel
theorem dX3_waysToFill_96 : decode cX3_waysToFill 96 = .ok (.getfield 18, 3) := by decide +kernel
theorem dX3_waysToFill_99 : decode cX3_waysToFill 99 = .ok (.iload_n 1, 1) := by decide +kernel
theorem dX3_waysToFill_100 : decode cX3_waysToFill 100 = .ok (.iaload, 1) := by decide +kernel
theorem dX3_waysToFill_101 : decode cX3_waysToFill 101 = .ok (.iconst 3, 1) := by decide +kernel
theorem dX3_waysToFill_102 : decode cX3_waysToFill 102 = .ok (.if_icmp .ne 23, 3) := by decide +kernel
theorem dX3_waysToFill_105 : decode cX3_waysToFill 105 = .ok (.iload 4, 2) := by decide +kernel
theorem dX3_waysToFill_107 : decode cX3_waysToFill 107 = .ok (.aload_n 0, 1) := by decide +kernel
theorem dX3_waysToFill_108 : decode cX3_waysToFill 108 = .ok (.iload_n 1, 1) := by decide +kernel
theorem dX3_waysToFill_109 : decode cX3_waysToFill 109 = .ok (.iconst 1, 1) := by decide +kernel
theorem dX3_waysToFill_110 : decode cX3_waysToFill 110 = .ok (.iadd, 1) := by decide +kernel
theorem dX3_waysToFill_111 : decode cX3_waysToFill 111 = .ok (.lload_n 2, 1) := by decide +kernel
theorem dX3_waysToFill_112 : decode cX3_waysToFill 112 = .ok (.aload_n 0, 1) := by decide +kernel
theorem dX3_waysToFill_113 : decode cX3_waysToFill 113 = .ok (.getfield 15, 3) := by decide +kernel
theorem dX3_waysToFill_116 : decode cX3_waysToFill 116 = .ok (.iload_n 1, 1) := by decide +kernel
theorem dX3_waysToFill_117 : decode cX3_waysToFill 117 = .ok (.laload, 1) := by decide +kernel
theorem dX3_waysToFill_118 : decode cX3_waysToFill 118 = .ok (.lor, 1) := by decide +kernel
theorem dX3_waysToFill_119 : decode cX3_waysToFill 119 = .ok (.invokestatic 71, 3) := by decide +kernel
theorem dX3_waysToFill_122 : decode cX3_waysToFill 122 = .ok (.iadd, 1) := by decide +kernel
theorem dX3_waysToFill_123 : decode cX3_waysToFill 123 = .ok (.istore 4, 2) := by decide +kernel
theorem dX3_waysToFill_125 : decode cX3_waysToFill 125 = .ok (.iload 4, 2) := by decide +kernel
theorem dX3_waysToFill_127 : decode cX3_waysToFill 127 = .ok (.ireturn, 1) := by decide +kernel
theorem dX3_mostHeads_0 : decode cX3_mostHeads 0 = .ok (.iconst 0, 1) := by decide +kernel
theorem dX3_mostHeads_1 : decode cX3_mostHeads 1 = .ok (.istore_n 1, 1) := by decide +kernel
theorem dX3_mostHeads_2 : decode cX3_mostHeads 2 = .ok (.iconst 0, 1) := by decide +kernel
theorem dX3_mostHeads_3 : decode cX3_mostHeads 3 = .ok (.istore_n 2, 1) := by decide +kernel
theorem dX3_mostHeads_4 : decode cX3_mostHeads 4 = .ok (.iload_n 2, 1) := by decide +kernel
theorem dX3_mostHeads_5 : decode cX3_mostHeads 5 = .ok (.bipush 10, 2) := by decide +kernel
theorem dX3_mostHeads_7 : decode cX3_mostHeads 7 = .ok (.if_icmp .ge 27, 3) := by decide +kernel
theorem dX3_mostHeads_10 : decode cX3_mostHeads 10 = .ok (.iload_n 1, 1) := by decide +kernel
theorem dX3_mostHeads_11 : decode cX3_mostHeads 11 = .ok (.aload_n 0, 1) := by decide +kernel
theorem dX3_mostHeads_12 : decode cX3_mostHeads 12 = .ok (.getfield 18, 3) := by decide +kernel
theorem dX3_mostHeads_15 : decode cX3_mostHeads 15 = .ok (.iload_n 2, 1) := by decide +kernel
theorem dX3_mostHeads_16 : decode cX3_mostHeads 16 = .ok (.iaload, 1) := by decide +kernel
theorem dX3_mostHeads_17 : decode cX3_mostHeads 17 = .ok (.iconst 1, 1) := by decide +kernel
theorem dX3_mostHeads_18 : decode cX3_mostHeads 18 = .ok (.if_icmp .ne 7, 3) := by decide +kernel
theorem dX3_mostHeads_21 : decode cX3_mostHeads 21 = .ok (.iconst 0, 1) := by decide +kernel
theorem dX3_mostHeads_22 : decode cX3_mostHeads 22 = .ok (.goto 4, 3) := by decide +kernel
theorem dX3_mostHeads_25 : decode cX3_mostHeads 25 = .ok (.iconst 1, 1) := by decide +kernel
theorem dX3_mostHeads_26 : decode cX3_mostHeads 26 = .ok (.iadd, 1) := by decide +kernel
theorem dX3_mostHeads_27 : decode cX3_mostHeads 27 = .ok (.istore_n 1, 1) := by decide +kernel
theorem dX3_mostHeads_28 : decode cX3_mostHeads 28 = .ok (.iinc 2 1, 3) := by decide +kernel
theorem dX3_mostHeads_31 : decode cX3_mostHeads 31 = .ok (.goto (-27), 3) := by decide +kernel
theorem dX3_mostHeads_34 : decode cX3_mostHeads 34 = .ok (.iload_n 1, 1) := by decide +kernel
theorem dX3_mostHeads_35 : decode cX3_mostHeads 35 = .ok (.ireturn, 1) := by decide +kernel
theorem dX3_fewestHeads_0 : decode cX3_fewestHeads 0 = .ok (.aload_n 0, 1) := by decide +kernel
theorem dX3_fewestHeads_1 : decode cX3_fewestHeads 1 = .ok (.iconst 0, 1) := by decide +kernel
theorem dX3_fewestHeads_2 : decode cX3_fewestHeads 2 = .ok (.lconst 0, 1) := by decide +kernel
theorem dX3_fewestHeads_3 : decode cX3_fewestHeads 3 = .ok (.invokestatic 79, 3) := by decide +kernel
theorem dX3_fewestHeads_6 : decode cX3_fewestHeads 6 = .ok (.ireturn, 1) := by decide +kernel
theorem dX3_fewestFrom_0 : decode cX3_fewestFrom 0 = .ok (.lload_n 2, 1) := by decide +kernel
theorem dX3_fewestFrom_1 : decode cX3_fewestFrom 1 = .ok (.aload_n 0, 1) := by decide +kernel
theorem dX3_fewestFrom_2 : decode cX3_fewestFrom 2 = .ok (.getfield 34, 3) := by decide +kernel
theorem dX3_fewestFrom_5 : decode cX3_fewestFrom 5 = .ok (.lcmp, 1) := by decide +kernel
theorem dX3_fewestFrom_6 : decode cX3_fewestFrom 6 = .ok (.ifCond .ne 5, 3) := by decide +kernel
theorem dX3_fewestFrom_9 : decode cX3_fewestFrom 9 = .ok (.iconst 0, 1) := by decide +kernel
theorem dX3_fewestFrom_10 : decode cX3_fewestFrom 10 = .ok (.ireturn, 1) := by decide +kernel
theorem dX3_fewestFrom_11 : decode cX3_fewestFrom 11 = .ok (.iload_n 1, 1) := by decide +kernel
theorem dX3_fewestFrom_12 : decode cX3_fewestFrom 12 = .ok (.bipush 10, 2) := by decide +kernel
theorem dX3_fewestFrom_14 : decode cX3_fewestFrom 14 = .ok (.invokestatic 75, 3) := by decide +kernel
theorem dX3_fewestFrom_17 : decode cX3_fewestFrom 17 = .ok (.ifCond .eq 19, 3) := by decide +kernel
theorem dX3_fewestFrom_20 : decode cX3_fewestFrom 20 = .ok (.lload_n 2, 1) := by decide +kernel
theorem dX3_fewestFrom_21 : decode cX3_fewestFrom 21 = .ok (.aload_n 0, 1) := by decide +kernel
theorem dX3_fewestFrom_22 : decode cX3_fewestFrom 22 = .ok (.getfield 22, 3) := by decide +kernel
theorem dX3_fewestFrom_25 : decode cX3_fewestFrom 25 = .ok (.iload_n 1, 1) := by decide +kernel
theorem dX3_fewestFrom_26 : decode cX3_fewestFrom 26 = .ok (.laload, 1) := by decide +kernel
theorem dX3_fewestFrom_27 : decode cX3_fewestFrom 27 = .ok (.lor, 1) := by decide +kernel
theorem dX3_fewestFrom_28 : decode cX3_fewestFrom 28 = .ok (.aload_n 0, 1) := by decide +kernel
theorem dX3_fewestFrom_29 : decode cX3_fewestFrom 29 = .ok (.getfield 34, 3) := by decide +kernel
theorem dX3_fewestFrom_32 : decode cX3_fewestFrom 32 = .ok (.lcmp, 1) := by decide +kernel
theorem dX3_fewestFrom_33 : decode cX3_fewestFrom 33 = .ok (.ifCond .eq 6, 3) := by decide +kernel
theorem dX3_fewestFrom_36 : decode cX3_fewestFrom 36 = .ok (.bipush 11, 2) := by decide +kernel
theorem dX3_fewestFrom_38 : decode cX3_fewestFrom 38 = .ok (.ireturn, 1) := by decide +kernel
theorem dX3_fewestFrom_39 : decode cX3_fewestFrom 39 = .ok (.aload_n 0, 1) := by decide +kernel
theorem dX3_fewestFrom_40 : decode cX3_fewestFrom 40 = .ok (.iload_n 1, 1) := by decide +kernel
theorem dX3_fewestFrom_41 : decode cX3_fewestFrom 41 = .ok (.iconst 1, 1) := by decide +kernel
theorem dX3_fewestFrom_42 : decode cX3_fewestFrom 42 = .ok (.iadd, 1) := by decide +kernel
theorem dX3_fewestFrom_43 : decode cX3_fewestFrom 43 = .ok (.lload_n 2, 1) := by decide +kernel
theorem dX3_fewestFrom_44 : decode cX3_fewestFrom 44 = .ok (.invokestatic 79, 3) := by decide +kernel
theorem dX3_fewestFrom_47 : decode cX3_fewestFrom 47 = .ok (.istore 4, 2) := by decide +kernel
theorem dX3_fewestFrom_49 : decode cX3_fewestFrom 49 = .ok (.iload 4, 2) := by decide +kernel
theorem dX3_fewestFrom_51 : decode cX3_fewestFrom 51 = .ok (.iconst 1, 1) := by decide +kernel
theorem dX3_fewestFrom_52 : decode cX3_fewestFrom 52 = .ok (.aload_n 0, 1) := by decide +kernel
theorem dX3_fewestFrom_53 : decode cX3_fewestFrom 53 = .ok (.iload_n 1, 1) := by decide +kernel
theorem dX3_fewestFrom_54 : decode cX3_fewestFrom 54 = .ok (.iconst 1, 1) := by decide +kernel
theorem dX3_fewestFrom_55 : decode cX3_fewestFrom 55 = .ok (.iadd, 1) := by decide +kernel
theorem dX3_fewestFrom_56 : decode cX3_fewestFrom 56 = .ok (.lload_n 2, 1) := by decide +kernel
theorem dX3_fewestFrom_57 : decode cX3_fewestFrom 57 = .ok (.aload_n 0, 1) := by decide +kernel
theorem dX3_fewestFrom_58 : decode cX3_fewestFrom 58 = .ok (.iload_n 1, 1) := by decide +kernel
theorem dX3_fewestFrom_59 : decode cX3_fewestFrom 59 = .ok (.invokevirtual 55, 3) := by decide +kernel
theorem dX3_fewestFrom_62 : decode cX3_fewestFrom 62 = .ok (.lor, 1) := by decide +kernel
theorem dX3_fewestFrom_63 : decode cX3_fewestFrom 63 = .ok (.invokestatic 79, 3) := by decide +kernel
theorem dX3_fewestFrom_66 : decode cX3_fewestFrom 66 = .ok (.iadd, 1) := by decide +kernel
theorem dX3_fewestFrom_67 : decode cX3_fewestFrom 67 = .ok (.invokestatic 82, 3) := by decide +kernel
theorem dX3_fewestFrom_70 : decode cX3_fewestFrom 70 = .ok (.ireturn, 1) := by decide +kernel
theorem dX3_surelyTaken_0 : decode cX3_surelyTaken 0 = .ok (.iconst 0, 1) := by decide +kernel
theorem dX3_surelyTaken_1 : decode cX3_surelyTaken 1 = .ok (.istore_n 1, 1) := by decide +kernel
theorem dX3_surelyTaken_2 : decode cX3_surelyTaken 2 = .ok (.iconst 0, 1) := by decide +kernel
theorem dX3_surelyTaken_3 : decode cX3_surelyTaken 3 = .ok (.istore_n 2, 1) := by decide +kernel
theorem dX3_surelyTaken_4 : decode cX3_surelyTaken 4 = .ok (.iload_n 2, 1) := by decide +kernel
theorem dX3_surelyTaken_5 : decode cX3_surelyTaken 5 = .ok (.bipush 10, 2) := by decide +kernel
theorem dX3_surelyTaken_7 : decode cX3_surelyTaken 7 = .ok (.if_icmp .ge 32, 3) := by decide +kernel
theorem dX3_surelyTaken_10 : decode cX3_surelyTaken 10 = .ok (.iload_n 1, 1) := by decide +kernel
theorem dX3_surelyTaken_11 : decode cX3_surelyTaken 11 = .ok (.aload_n 0, 1) := by decide +kernel
theorem dX3_surelyTaken_12 : decode cX3_surelyTaken 12 = .ok (.iload_n 2, 1) := by decide +kernel
theorem dX3_surelyTaken_13 : decode cX3_surelyTaken 13 = .ok (.invokevirtual 88, 3) := by decide +kernel
theorem dX3_surelyTaken_16 : decode cX3_surelyTaken 16 = .ok (.aload_n 0, 1) := by decide +kernel
theorem dX3_surelyTaken_17 : decode cX3_surelyTaken 17 = .ok (.getfield 34, 3) := by decide +kernel
theorem dX3_surelyTaken_20 : decode cX3_surelyTaken 20 = .ok (.lcmp, 1) := by decide +kernel
theorem dX3_surelyTaken_21 : decode cX3_surelyTaken 21 = .ok (.ifCond .ne 7, 3) := by decide +kernel
theorem dX3_surelyTaken_24 : decode cX3_surelyTaken 24 = .ok (.iconst 0, 1) := by decide +kernel
theorem dX3_surelyTaken_25 : decode cX3_surelyTaken 25 = .ok (.goto 6, 3) := by decide +kernel
theorem dX3_surelyTaken_28 : decode cX3_surelyTaken 28 = .ok (.iconst 1, 1) := by decide +kernel
theorem dX3_surelyTaken_29 : decode cX3_surelyTaken 29 = .ok (.iload_n 2, 1) := by decide +kernel
theorem dX3_surelyTaken_30 : decode cX3_surelyTaken 30 = .ok (.ishl, 1) := by decide +kernel
theorem dX3_surelyTaken_31 : decode cX3_surelyTaken 31 = .ok (.ior, 1) := by decide +kernel
theorem dX3_surelyTaken_32 : decode cX3_surelyTaken 32 = .ok (.istore_n 1, 1) := by decide +kernel
theorem dX3_surelyTaken_33 : decode cX3_surelyTaken 33 = .ok (.iinc 2 1, 3) := by decide +kernel
theorem dX3_surelyTaken_36 : decode cX3_surelyTaken 36 = .ok (.goto (-32), 3) := by decide +kernel
theorem dX3_surelyTaken_39 : decode cX3_surelyTaken 39 = .ok (.iload_n 1, 1) := by decide +kernel
theorem dX3_surelyTaken_40 : decode cX3_surelyTaken 40 = .ok (.ireturn, 1) := by decide +kernel
theorem dX3_darkWithout_0 : decode cX3_darkWithout 0 = .ok (.lconst 0, 1) := by decide +kernel
theorem dX3_darkWithout_1 : decode cX3_darkWithout 1 = .ok (.lstore_n 2, 1) := by decide +kernel
theorem dX3_darkWithout_2 : decode cX3_darkWithout 2 = .ok (.iconst 0, 1) := by decide +kernel
theorem dX3_darkWithout_3 : decode cX3_darkWithout 3 = .ok (.istore 4, 2) := by decide +kernel
theorem dX3_darkWithout_5 : decode cX3_darkWithout 5 = .ok (.iload 4, 2) := by decide +kernel
theorem dX3_darkWithout_7 : decode cX3_darkWithout 7 = .ok (.bipush 10, 2) := by decide +kernel
theorem dX3_darkWithout_9 : decode cX3_darkWithout 9 = .ok (.if_icmp .ge 28, 3) := by decide +kernel
theorem dX3_darkWithout_12 : decode cX3_darkWithout 12 = .ok (.lload_n 2, 1) := by decide +kernel
theorem dX3_darkWithout_13 : decode cX3_darkWithout 13 = .ok (.iload 4, 2) := by decide +kernel
theorem dX3_darkWithout_15 : decode cX3_darkWithout 15 = .ok (.iload_n 1, 1) := by decide +kernel
theorem dX3_darkWithout_16 : decode cX3_darkWithout 16 = .ok (.if_icmp .ne 7, 3) := by decide +kernel
theorem dX3_darkWithout_19 : decode cX3_darkWithout 19 = .ok (.lconst 0, 1) := by decide +kernel
theorem dX3_darkWithout_20 : decode cX3_darkWithout 20 = .ok (.goto 9, 3) := by decide +kernel
theorem dX3_darkWithout_23 : decode cX3_darkWithout 23 = .ok (.aload_n 0, 1) := by decide +kernel
theorem dX3_darkWithout_24 : decode cX3_darkWithout 24 = .ok (.iload 4, 2) := by decide +kernel
theorem dX3_darkWithout_26 : decode cX3_darkWithout 26 = .ok (.invokevirtual 55, 3) := by decide +kernel
theorem dX3_darkWithout_29 : decode cX3_darkWithout 29 = .ok (.lor, 1) := by decide +kernel
theorem dX3_darkWithout_30 : decode cX3_darkWithout 30 = .ok (.lstore_n 2, 1) := by decide +kernel
theorem dX3_darkWithout_31 : decode cX3_darkWithout 31 = .ok (.iinc 4 1, 3) := by decide +kernel
theorem dX3_darkWithout_34 : decode cX3_darkWithout 34 = .ok (.goto (-29), 3) := by decide +kernel
theorem dX3_darkWithout_37 : decode cX3_darkWithout 37 = .ok (.lload_n 2, 1) := by decide +kernel
theorem dX3_darkWithout_38 : decode cX3_darkWithout 38 = .ok (.lreturn, 1) := by decide +kernel
theorem dX3_tellingMinute_0 : decode cX3_tellingMinute 0 = .ok (.iconst 0, 1) := by decide +kernel
theorem dX3_tellingMinute_1 : decode cX3_tellingMinute 1 = .ok (.istore_n 1, 1) := by decide +kernel
theorem dX3_tellingMinute_2 : decode cX3_tellingMinute 2 = .ok (.iconst 0, 1) := by decide +kernel
theorem dX3_tellingMinute_3 : decode cX3_tellingMinute 3 = .ok (.istore_n 2, 1) := by decide +kernel
theorem dX3_tellingMinute_4 : decode cX3_tellingMinute 4 = .ok (.iconst 0, 1) := by decide +kernel
theorem dX3_tellingMinute_5 : decode cX3_tellingMinute 5 = .ok (.istore_n 3, 1) := by decide +kernel
theorem dX3_tellingMinute_6 : decode cX3_tellingMinute 6 = .ok (.iload_n 3, 1) := by decide +kernel
theorem dX3_tellingMinute_7 : decode cX3_tellingMinute 7 = .ok (.bipush 16, 2) := by decide +kernel
theorem dX3_tellingMinute_9 : decode cX3_tellingMinute 9 = .ok (.if_icmp .ge 27, 3) := by decide +kernel
theorem dX3_tellingMinute_12 : decode cX3_tellingMinute 12 = .ok (.aload_n 0, 1) := by decide +kernel
theorem dX3_tellingMinute_13 : decode cX3_tellingMinute 13 = .ok (.iload_n 3, 1) := by decide +kernel
theorem dX3_tellingMinute_14 : decode cX3_tellingMinute 14 = .ok (.invokevirtual 91, 3) := by decide +kernel
theorem dX3_tellingMinute_17 : decode cX3_tellingMinute 17 = .ok (.istore 4, 2) := by decide +kernel
theorem dX3_tellingMinute_19 : decode cX3_tellingMinute 19 = .ok (.iload 4, 2) := by decide +kernel
theorem dX3_tellingMinute_21 : decode cX3_tellingMinute 21 = .ok (.iload_n 2, 1) := by decide +kernel
theorem dX3_tellingMinute_22 : decode cX3_tellingMinute 22 = .ok (.if_icmp .le 8, 3) := by decide +kernel
theorem dX3_tellingMinute_25 : decode cX3_tellingMinute 25 = .ok (.iload 4, 2) := by decide +kernel
theorem dX3_tellingMinute_27 : decode cX3_tellingMinute 27 = .ok (.istore_n 2, 1) := by decide +kernel
theorem dX3_tellingMinute_28 : decode cX3_tellingMinute 28 = .ok (.iload_n 3, 1) := by decide +kernel
theorem dX3_tellingMinute_29 : decode cX3_tellingMinute 29 = .ok (.istore_n 1, 1) := by decide +kernel
theorem dX3_tellingMinute_30 : decode cX3_tellingMinute 30 = .ok (.iinc 3 1, 3) := by decide +kernel
theorem dX3_tellingMinute_33 : decode cX3_tellingMinute 33 = .ok (.goto (-27), 3) := by decide +kernel
theorem dX3_tellingMinute_36 : decode cX3_tellingMinute 36 = .ok (.iload_n 1, 1) := by decide +kernel
theorem dX3_tellingMinute_37 : decode cX3_tellingMinute 37 = .ok (.ireturn, 1) := by decide +kernel
theorem dX3_unlikeRows_0 : decode cX3_unlikeRows 0 = .ok (.iconst 0, 1) := by decide +kernel
theorem dX3_unlikeRows_1 : decode cX3_unlikeRows 1 = .ok (.istore_n 2, 1) := by decide +kernel
theorem dX3_unlikeRows_2 : decode cX3_unlikeRows 2 = .ok (.iconst 0, 1) := by decide +kernel
theorem dX3_unlikeRows_3 : decode cX3_unlikeRows 3 = .ok (.istore_n 3, 1) := by decide +kernel
theorem dX3_unlikeRows_4 : decode cX3_unlikeRows 4 = .ok (.iload_n 3, 1) := by decide +kernel
theorem dX3_unlikeRows_5 : decode cX3_unlikeRows 5 = .ok (.bipush 10, 2) := by decide +kernel
theorem dX3_unlikeRows_7 : decode cX3_unlikeRows 7 = .ok (.if_icmp .ge 83, 3) := by decide +kernel
theorem dX3_unlikeRows_10 : decode cX3_unlikeRows 10 = .ok (.aload_n 0, 1) := by decide +kernel
theorem dX3_unlikeRows_11 : decode cX3_unlikeRows 11 = .ok (.getfield 28, 3) := by decide +kernel
theorem dX3_unlikeRows_14 : decode cX3_unlikeRows 14 = .ok (.iload_n 3, 1) := by decide +kernel
theorem dX3_unlikeRows_15 : decode cX3_unlikeRows 15 = .ok (.getstatic 59, 3) := by decide +kernel
theorem dX3_unlikeRows_18 : decode cX3_unlikeRows 18 = .ok (.iconst 1, 1) := by decide +kernel
theorem dX3_unlikeRows_19 : decode cX3_unlikeRows 19 = .ok (.iaload, 1) := by decide +kernel
theorem dX3_unlikeRows_20 : decode cX3_unlikeRows 20 = .ok (.iload_n 3, 1) := by decide +kernel
theorem dX3_unlikeRows_21 : decode cX3_unlikeRows 21 = .ok (.iload_n 1, 1) := by decide +kernel
theorem dX3_unlikeRows_22 : decode cX3_unlikeRows 22 = .ok (.invokestatic 65, 3) := by decide +kernel
theorem dX3_unlikeRows_25 : decode cX3_unlikeRows 25 = .ok (.iastore, 1) := by decide +kernel
theorem dX3_unlikeRows_26 : decode cX3_unlikeRows 26 = .ok (.aload_n 0, 1) := by decide +kernel
theorem dX3_unlikeRows_27 : decode cX3_unlikeRows 27 = .ok (.getfield 31, 3) := by decide +kernel
theorem dX3_unlikeRows_30 : decode cX3_unlikeRows 30 = .ok (.iload_n 3, 1) := by decide +kernel
theorem dX3_unlikeRows_31 : decode cX3_unlikeRows 31 = .ok (.getstatic 59, 3) := by decide +kernel
theorem dX3_unlikeRows_34 : decode cX3_unlikeRows 34 = .ok (.iconst 0, 1) := by decide +kernel
theorem dX3_unlikeRows_35 : decode cX3_unlikeRows 35 = .ok (.iaload, 1) := by decide +kernel
theorem dX3_unlikeRows_36 : decode cX3_unlikeRows 36 = .ok (.iload_n 3, 1) := by decide +kernel
theorem dX3_unlikeRows_37 : decode cX3_unlikeRows 37 = .ok (.iload_n 1, 1) := by decide +kernel
theorem dX3_unlikeRows_38 : decode cX3_unlikeRows 38 = .ok (.invokestatic 65, 3) := by decide +kernel
theorem dX3_unlikeRows_41 : decode cX3_unlikeRows 41 = .ok (.iastore, 1) := by decide +kernel
theorem dX3_unlikeRows_42 : decode cX3_unlikeRows 42 = .ok (.iload_n 2, 1) := by decide +kernel
theorem dX3_unlikeRows_43 : decode cX3_unlikeRows 43 = .ok (.aload_n 0, 1) := by decide +kernel
theorem dX3_unlikeRows_44 : decode cX3_unlikeRows 44 = .ok (.getfield 18, 3) := by decide +kernel
theorem dX3_unlikeRows_47 : decode cX3_unlikeRows 47 = .ok (.iload_n 3, 1) := by decide +kernel
theorem dX3_unlikeRows_48 : decode cX3_unlikeRows 48 = .ok (.iaload, 1) := by decide +kernel
theorem dX3_unlikeRows_49 : decode cX3_unlikeRows 49 = .ok (.iconst 3, 1) := by decide +kernel
theorem dX3_unlikeRows_50 : decode cX3_unlikeRows 50 = .ok (.if_icmp .ne 12, 3) := by decide +kernel
theorem dX3_unlikeRows_53 : decode cX3_unlikeRows 53 = .ok (.aload_n 0, 1) := by decide +kernel
theorem dX3_unlikeRows_54 : decode cX3_unlikeRows 54 = .ok (.getfield 31, 3) := by decide +kernel
theorem dX3_unlikeRows_57 : decode cX3_unlikeRows 57 = .ok (.iload_n 3, 1) := by decide +kernel
theorem dX3_unlikeRows_58 : decode cX3_unlikeRows 58 = .ok (.iaload, 1) := by decide +kernel
theorem dX3_unlikeRows_59 : decode cX3_unlikeRows 59 = .ok (.goto 23, 3) := by decide +kernel
theorem dX3_unlikeRows_62 : decode cX3_unlikeRows 62 = .ok (.aload_n 0, 1) := by decide +kernel
theorem dX3_unlikeRows_63 : decode cX3_unlikeRows 63 = .ok (.getfield 18, 3) := by decide +kernel
theorem dX3_unlikeRows_66 : decode cX3_unlikeRows 66 = .ok (.iload_n 3, 1) := by decide +kernel
theorem dX3_unlikeRows_67 : decode cX3_unlikeRows 67 = .ok (.iaload, 1) := by decide +kernel
theorem dX3_unlikeRows_68 : decode cX3_unlikeRows 68 = .ok (.iconst 2, 1) := by decide +kernel
theorem dX3_unlikeRows_69 : decode cX3_unlikeRows 69 = .ok (.if_icmp .ne 12, 3) := by decide +kernel
theorem dX3_unlikeRows_72 : decode cX3_unlikeRows 72 = .ok (.aload_n 0, 1) := by decide +kernel
theorem dX3_unlikeRows_73 : decode cX3_unlikeRows 73 = .ok (.getfield 28, 3) := by decide +kernel
theorem dX3_unlikeRows_76 : decode cX3_unlikeRows 76 = .ok (.iload_n 3, 1) := by decide +kernel
theorem dX3_unlikeRows_77 : decode cX3_unlikeRows 77 = .ok (.iaload, 1) := by decide +kernel
theorem dX3_unlikeRows_78 : decode cX3_unlikeRows 78 = .ok (.goto 4, 3) := by decide +kernel
theorem dX3_unlikeRows_81 : decode cX3_unlikeRows 81 = .ok (.iconst 0, 1) := by decide +kernel
theorem dX3_unlikeRows_82 : decode cX3_unlikeRows 82 = .ok (.ior, 1) := by decide +kernel
theorem dX3_unlikeRows_83 : decode cX3_unlikeRows 83 = .ok (.istore_n 2, 1) := by decide +kernel
theorem dX3_unlikeRows_84 : decode cX3_unlikeRows 84 = .ok (.iinc 3 1, 3) := by decide +kernel
theorem dX3_unlikeRows_87 : decode cX3_unlikeRows 87 = .ok (.goto (-83), 3) := by decide +kernel
theorem dX3_unlikeRows_90 : decode cX3_unlikeRows 90 = .ok (.iconst 0, 1) := by decide +kernel
theorem dX3_unlikeRows_91 : decode cX3_unlikeRows 91 = .ok (.istore_n 3, 1) := by decide +kernel
theorem dX3_unlikeRows_92 : decode cX3_unlikeRows 92 = .ok (.iconst 0, 1) := by decide +kernel
theorem dX3_unlikeRows_93 : decode cX3_unlikeRows 93 = .ok (.istore 4, 2) := by decide +kernel
theorem dX3_unlikeRows_95 : decode cX3_unlikeRows 95 = .ok (.iload 4, 2) := by decide +kernel
theorem dX3_unlikeRows_97 : decode cX3_unlikeRows 97 = .ok (.sipush 1023, 3) := by decide +kernel
theorem dX3_unlikeRows_100 : decode cX3_unlikeRows 100 = .ok (.if_icmp .gt 30, 3) := by decide +kernel
theorem dX3_unlikeRows_103 : decode cX3_unlikeRows 103 = .ok (.iload 4, 2) := by decide +kernel
theorem dX3_unlikeRows_105 : decode cX3_unlikeRows 105 = .ok (.iload_n 2, 1) := by decide +kernel
theorem dX3_unlikeRows_106 : decode cX3_unlikeRows 106 = .ok (.iconst (-1), 1) := by decide +kernel
theorem dX3_unlikeRows_107 : decode cX3_unlikeRows 107 = .ok (.ixor, 1) := by decide +kernel
theorem dX3_unlikeRows_108 : decode cX3_unlikeRows 108 = .ok (.iand, 1) := by decide +kernel
theorem dX3_unlikeRows_109 : decode cX3_unlikeRows 109 = .ok (.ifCond .ne 15, 3) := by decide +kernel
theorem dX3_unlikeRows_112 : decode cX3_unlikeRows 112 = .ok (.aload_n 0, 1) := by decide +kernel
theorem dX3_unlikeRows_113 : decode cX3_unlikeRows 113 = .ok (.iload 4, 2) := by decide +kernel
theorem dX3_unlikeRows_115 : decode cX3_unlikeRows 115 = .ok (.invokevirtual 95, 3) := by decide +kernel
theorem dX3_unlikeRows_118 : decode cX3_unlikeRows 118 = .ok (.ifCond .eq 6, 3) := by decide +kernel
theorem dX3_unlikeRows_121 : decode cX3_unlikeRows 121 = .ok (.iinc 3 1, 3) := by decide +kernel
theorem dX3_unlikeRows_124 : decode cX3_unlikeRows 124 = .ok (.iinc 4 1, 3) := by decide +kernel
theorem dX3_unlikeRows_127 : decode cX3_unlikeRows 127 = .ok (.goto (-32), 3) := by decide +kernel
theorem dX3_unlikeRows_130 : decode cX3_unlikeRows 130 = .ok (.iload_n 3, 1) := by decide +kernel
theorem dX3_unlikeRows_131 : decode cX3_unlikeRows 131 = .ok (.ireturn, 1) := by decide +kernel
theorem dX3_mayShow_0 : decode cX3_mayShow 0 = .ok (.lconst 0, 1) := by decide +kernel
theorem dX3_mayShow_1 : decode cX3_mayShow 1 = .ok (.lstore_n 2, 1) := by decide +kernel
theorem dX3_mayShow_2 : decode cX3_mayShow 2 = .ok (.iconst 0, 1) := by decide +kernel
theorem dX3_mayShow_3 : decode cX3_mayShow 3 = .ok (.istore 4, 2) := by decide +kernel
theorem dX3_mayShow_5 : decode cX3_mayShow 5 = .ok (.iconst 0, 1) := by decide +kernel
theorem dX3_mayShow_6 : decode cX3_mayShow 6 = .ok (.istore 5, 2) := by decide +kernel
theorem dX3_mayShow_8 : decode cX3_mayShow 8 = .ok (.iload 5, 2) := by decide +kernel
theorem dX3_mayShow_10 : decode cX3_mayShow 10 = .ok (.bipush 10, 2) := by decide +kernel
theorem dX3_mayShow_12 : decode cX3_mayShow 12 = .ok (.if_icmp .ge 106, 3) := by decide +kernel
theorem dX3_mayShow_15 : decode cX3_mayShow 15 = .ok (.aload_n 0, 1) := by decide +kernel
theorem dX3_mayShow_16 : decode cX3_mayShow 16 = .ok (.getfield 18, 3) := by decide +kernel
theorem dX3_mayShow_19 : decode cX3_mayShow 19 = .ok (.iload 5, 2) := by decide +kernel
theorem dX3_mayShow_21 : decode cX3_mayShow 21 = .ok (.iaload, 1) := by decide +kernel
theorem dX3_mayShow_22 : decode cX3_mayShow 22 = .ok (.iconst 3, 1) := by decide +kernel
theorem dX3_mayShow_23 : decode cX3_mayShow 23 = .ok (.if_icmp .ne 42, 3) := by decide +kernel
theorem dX3_mayShow_26 : decode cX3_mayShow 26 = .ok (.aload_n 0, 1) := by decide +kernel
theorem dX3_mayShow_27 : decode cX3_mayShow 27 = .ok (.getfield 31, 3) := by decide +kernel
theorem dX3_mayShow_30 : decode cX3_mayShow 30 = .ok (.iload 5, 2) := by decide +kernel
theorem dX3_mayShow_32 : decode cX3_mayShow 32 = .ok (.iaload, 1) := by decide +kernel
theorem dX3_mayShow_33 : decode cX3_mayShow 33 = .ok (.iload_n 1, 1) := by decide +kernel
theorem dX3_mayShow_34 : decode cX3_mayShow 34 = .ok (.iconst (-1), 1) := by decide +kernel
theorem dX3_mayShow_35 : decode cX3_mayShow 35 = .ok (.ixor, 1) := by decide +kernel
theorem dX3_mayShow_36 : decode cX3_mayShow 36 = .ok (.iand, 1) := by decide +kernel
theorem dX3_mayShow_37 : decode cX3_mayShow 37 = .ok (.ifCond .ne 28, 3) := by decide +kernel
theorem dX3_mayShow_40 : decode cX3_mayShow 40 = .ok (.lload_n 2, 1) := by decide +kernel
theorem dX3_mayShow_41 : decode cX3_mayShow 41 = .ok (.aload_n 0, 1) := by decide +kernel
theorem dX3_mayShow_42 : decode cX3_mayShow 42 = .ok (.getfield 15, 3) := by decide +kernel
theorem dX3_mayShow_45 : decode cX3_mayShow 45 = .ok (.iload 5, 2) := by decide +kernel
theorem dX3_mayShow_47 : decode cX3_mayShow 47 = .ok (.laload, 1) := by decide +kernel
theorem dX3_mayShow_48 : decode cX3_mayShow 48 = .ok (.lor, 1) := by decide +kernel
theorem dX3_mayShow_49 : decode cX3_mayShow 49 = .ok (.lstore_n 2, 1) := by decide +kernel
theorem dX3_mayShow_50 : decode cX3_mayShow 50 = .ok (.iload 4, 2) := by decide +kernel
theorem dX3_mayShow_52 : decode cX3_mayShow 52 = .ok (.aload_n 0, 1) := by decide +kernel
theorem dX3_mayShow_53 : decode cX3_mayShow 53 = .ok (.getfield 31, 3) := by decide +kernel
theorem dX3_mayShow_56 : decode cX3_mayShow 56 = .ok (.iload 5, 2) := by decide +kernel
theorem dX3_mayShow_58 : decode cX3_mayShow 58 = .ok (.iaload, 1) := by decide +kernel
theorem dX3_mayShow_59 : decode cX3_mayShow 59 = .ok (.ior, 1) := by decide +kernel
theorem dX3_mayShow_60 : decode cX3_mayShow 60 = .ok (.istore 4, 2) := by decide +kernel
theorem dX3_mayShow_62 : decode cX3_mayShow 62 = .ok (.goto 50, 3) := by decide +kernel
theorem dX3_mayShow_65 : decode cX3_mayShow 65 = .ok (.aload_n 0, 1) := by decide +kernel
theorem dX3_mayShow_66 : decode cX3_mayShow 66 = .ok (.getfield 18, 3) := by decide +kernel
theorem dX3_mayShow_69 : decode cX3_mayShow 69 = .ok (.iload 5, 2) := by decide +kernel
theorem dX3_mayShow_71 : decode cX3_mayShow 71 = .ok (.iaload, 1) := by decide +kernel
theorem dX3_mayShow_72 : decode cX3_mayShow 72 = .ok (.iconst 2, 1) := by decide +kernel
theorem dX3_mayShow_73 : decode cX3_mayShow 73 = .ok (.if_icmp .lt 39, 3) := by decide +kernel
theorem dX3_mayShow_76 : decode cX3_mayShow 76 = .ok (.aload_n 0, 1) := by decide +kernel
theorem dX3_mayShow_77 : decode cX3_mayShow 77 = .ok (.getfield 28, 3) := by decide +kernel
theorem dX3_mayShow_80 : decode cX3_mayShow 80 = .ok (.iload 5, 2) := by decide +kernel
theorem dX3_mayShow_82 : decode cX3_mayShow 82 = .ok (.iaload, 1) := by decide +kernel
theorem dX3_mayShow_83 : decode cX3_mayShow 83 = .ok (.iload_n 1, 1) := by decide +kernel
theorem dX3_mayShow_84 : decode cX3_mayShow 84 = .ok (.iconst (-1), 1) := by decide +kernel
theorem dX3_mayShow_85 : decode cX3_mayShow 85 = .ok (.ixor, 1) := by decide +kernel
theorem dX3_mayShow_86 : decode cX3_mayShow 86 = .ok (.iand, 1) := by decide +kernel
theorem dX3_mayShow_87 : decode cX3_mayShow 87 = .ok (.ifCond .ne 25, 3) := by decide +kernel
theorem dX3_mayShow_90 : decode cX3_mayShow 90 = .ok (.lload_n 2, 1) := by decide +kernel
theorem dX3_mayShow_91 : decode cX3_mayShow 91 = .ok (.aload_n 0, 1) := by decide +kernel
theorem dX3_mayShow_92 : decode cX3_mayShow 92 = .ok (.getfield 9, 3) := by decide +kernel
theorem dX3_mayShow_95 : decode cX3_mayShow 95 = .ok (.iload 5, 2) := by decide +kernel
theorem dX3_mayShow_97 : decode cX3_mayShow 97 = .ok (.laload, 1) := by decide +kernel
theorem dX3_mayShow_98 : decode cX3_mayShow 98 = .ok (.lor, 1) := by decide +kernel
theorem dX3_mayShow_99 : decode cX3_mayShow 99 = .ok (.lstore_n 2, 1) := by decide +kernel
theorem dX3_mayShow_100 : decode cX3_mayShow 100 = .ok (.iload 4, 2) := by decide +kernel
theorem dX3_mayShow_102 : decode cX3_mayShow 102 = .ok (.aload_n 0, 1) := by decide +kernel
theorem dX3_mayShow_103 : decode cX3_mayShow 103 = .ok (.getfield 28, 3) := by decide +kernel
theorem dX3_mayShow_106 : decode cX3_mayShow 106 = .ok (.iload 5, 2) := by decide +kernel
theorem dX3_mayShow_108 : decode cX3_mayShow 108 = .ok (.iaload, 1) := by decide +kernel
theorem dX3_mayShow_109 : decode cX3_mayShow 109 = .ok (.ior, 1) := by decide +kernel
theorem dX3_mayShow_110 : decode cX3_mayShow 110 = .ok (.istore 4, 2) := by decide +kernel
theorem dX3_mayShow_112 : decode cX3_mayShow 112 = .ok (.iinc 5 1, 3) := by decide +kernel
theorem dX3_mayShow_115 : decode cX3_mayShow 115 = .ok (.goto (-107), 3) := by decide +kernel
theorem dX3_mayShow_118 : decode cX3_mayShow 118 = .ok (.iload 4, 2) := by decide +kernel
theorem dX3_mayShow_120 : decode cX3_mayShow 120 = .ok (.iload_n 1, 1) := by decide +kernel
theorem dX3_mayShow_121 : decode cX3_mayShow 121 = .ok (.if_icmp .ne 16, 3) := by decide +kernel
theorem dX3_mayShow_124 : decode cX3_mayShow 124 = .ok (.lload_n 2, 1) := by decide +kernel
theorem dX3_mayShow_125 : decode cX3_mayShow 125 = .ok (.aload_n 0, 1) := by decide +kernel
theorem dX3_mayShow_126 : decode cX3_mayShow 126 = .ok (.getfield 34, 3) := by decide +kernel
theorem dX3_mayShow_129 : decode cX3_mayShow 129 = .ok (.lcmp, 1) := by decide +kernel
theorem dX3_mayShow_130 : decode cX3_mayShow 130 = .ok (.ifCond .ne 7, 3) := by decide +kernel
theorem dX3_mayShow_133 : decode cX3_mayShow 133 = .ok (.iconst 1, 1) := by decide +kernel
theorem dX3_mayShow_134 : decode cX3_mayShow 134 = .ok (.goto 4, 3) := by decide +kernel
theorem dX3_mayShow_137 : decode cX3_mayShow 137 = .ok (.iconst 0, 1) := by decide +kernel
theorem dX3_mayShow_138 : decode cX3_mayShow 138 = .ok (.ireturn, 1) := by decide +kernel
theorem dX4_init_0 : decode cX4_init 0 = .ok (.aload_n 0, 1) := by decide +kernel
theorem dX4_init_1 : decode cX4_init 1 = .ok (.invokespecial 3, 3) := by decide +kernel
theorem dX4_init_4 : decode cX4_init 4 = .ok (.aload_n 0, 1) := by decide +kernel
theorem dX4_init_5 : decode cX4_init 5 = .ok (.iconst 3, 1) := by decide +kernel
theorem dX4_init_6 : decode cX4_init 6 = .ok (.iconst 4, 1) := by decide +kernel
theorem dX4_init_7 : decode cX4_init 7 = .ok (.multianewarray 11 2, 4) := by decide +kernel
theorem dX4_init_11 : decode cX4_init 11 = .ok (.putfield 13, 3) := by decide +kernel
theorem dX4_init_14 : decode cX4_init 14 = .ok (.aload_n 0, 1) := by decide +kernel
theorem dX4_init_15 : decode cX4_init 15 = .ok (.iconst 4, 1) := by decide +kernel
theorem dX4_init_16 : decode cX4_init 16 = .ok (.iconst 4, 1) := by decide +kernel
theorem dX4_init_17 : decode cX4_init 17 = .ok (.multianewarray 11 2, 4) := by decide +kernel
theorem dX4_init_21 : decode cX4_init 21 = .ok (.putfield 16, 3) := by decide +kernel
theorem dX4_init_24 : decode cX4_init 24 = .ok (.aload_n 0, 1) := by decide +kernel
theorem dX4_init_25 : decode cX4_init 25 = .ok (.bipush 6, 2) := by decide +kernel
theorem dX4_init_27 : decode cX4_init 27 = .ok (.newarray .int, 2) := by decide +kernel
theorem dX4_init_29 : decode cX4_init 29 = .ok (.putfield 19, 3) := by decide +kernel
theorem dX4_init_32 : decode cX4_init 32 = .ok (.return_, 1) := by decide +kernel
theorem dX4_clear_0 : decode cX4_clear 0 = .ok (.aload_n 0, 1) := by decide +kernel
theorem dX4_clear_1 : decode cX4_clear 1 = .ok (.iconst 0, 1) := by decide +kernel
theorem dX4_clear_2 : decode cX4_clear 2 = .ok (.putfield 23, 3) := by decide +kernel
theorem dX4_clear_5 : decode cX4_clear 5 = .ok (.aload_n 0, 1) := by decide +kernel
theorem dX4_clear_6 : decode cX4_clear 6 = .ok (.iconst 0, 1) := by decide +kernel
theorem dX4_clear_7 : decode cX4_clear 7 = .ok (.putfield 27, 3) := by decide +kernel
theorem dX4_clear_10 : decode cX4_clear 10 = .ok (.aload_n 0, 1) := by decide +kernel
theorem dX4_clear_11 : decode cX4_clear 11 = .ok (.iconst 0, 1) := by decide +kernel
theorem dX4_clear_12 : decode cX4_clear 12 = .ok (.putfield 30, 3) := by decide +kernel
theorem dX4_clear_15 : decode cX4_clear 15 = .ok (.return_, 1) := by decide +kernel
theorem dX4_hasHill_0 : decode cX4_hasHill 0 = .ok (.iload_n 1, 1) := by decide +kernel
theorem dX4_hasHill_1 : decode cX4_hasHill 1 = .ok (.aload_n 0, 1) := by decide +kernel
theorem dX4_hasHill_2 : decode cX4_hasHill 2 = .ok (.getfield 23, 3) := by decide +kernel
theorem dX4_hasHill_5 : decode cX4_hasHill 5 = .ok (.invokestatic 33, 3) := by decide +kernel
theorem dX4_hasHill_8 : decode cX4_hasHill 8 = .ok (.ireturn, 1) := by decide +kernel
theorem dX4_hasCliff_0 : decode cX4_hasCliff 0 = .ok (.aload_n 0, 1) := by decide +kernel
theorem dX4_hasCliff_1 : decode cX4_hasCliff 1 = .ok (.getfield 30, 3) := by decide +kernel
theorem dX4_hasCliff_4 : decode cX4_hasCliff 4 = .ok (.iload_n 1, 1) := by decide +kernel
theorem dX4_hasCliff_5 : decode cX4_hasCliff 5 = .ok (.ishr, 1) := by decide +kernel
theorem dX4_hasCliff_6 : decode cX4_hasCliff 6 = .ok (.iconst 1, 1) := by decide +kernel
theorem dX4_hasCliff_7 : decode cX4_hasCliff 7 = .ok (.iand, 1) := by decide +kernel
theorem dX4_hasCliff_8 : decode cX4_hasCliff 8 = .ok (.ifCond .eq 7, 3) := by decide +kernel
theorem dX4_hasCliff_11 : decode cX4_hasCliff 11 = .ok (.iconst 1, 1) := by decide +kernel
theorem dX4_hasCliff_12 : decode cX4_hasCliff 12 = .ok (.goto 4, 3) := by decide +kernel
theorem dX4_hasCliff_15 : decode cX4_hasCliff 15 = .ok (.iconst 0, 1) := by decide +kernel
theorem dX4_hasCliff_16 : decode cX4_hasCliff 16 = .ok (.ireturn, 1) := by decide +kernel
theorem dX4_addHill_0 : decode cX4_addHill 0 = .ok (.aload_n 0, 1) := by decide +kernel
theorem dX4_addHill_1 : decode cX4_addHill 1 = .ok (.getfield 23, 3) := by decide +kernel
theorem dX4_addHill_4 : decode cX4_addHill 4 = .ok (.iconst 3, 1) := by decide +kernel
theorem dX4_addHill_5 : decode cX4_addHill 5 = .ok (.if_icmp .ge 26, 3) := by decide +kernel
theorem dX4_addHill_8 : decode cX4_addHill 8 = .ok (.aload_n 1, 1) := by decide +kernel
theorem dX4_addHill_9 : decode cX4_addHill 9 = .ok (.aload_n 0, 1) := by decide +kernel
theorem dX4_addHill_10 : decode cX4_addHill 10 = .ok (.getfield 13, 3) := by decide +kernel
theorem dX4_addHill_13 : decode cX4_addHill 13 = .ok (.aload_n 0, 1) := by decide +kernel
theorem dX4_addHill_14 : decode cX4_addHill 14 = .ok (.getfield 23, 3) := by decide +kernel
theorem dX4_addHill_17 : decode cX4_addHill 17 = .ok (.aaload, 1) := by decide +kernel
theorem dX4_addHill_18 : decode cX4_addHill 18 = .ok (.invokestatic 37, 3) := by decide +kernel
theorem dX4_addHill_21 : decode cX4_addHill 21 = .ok (.aload_n 0, 1) := by decide +kernel
theorem dX4_addHill_22 : decode cX4_addHill 22 = .ok (.dup, 1) := by decide +kernel
theorem dX4_addHill_23 : decode cX4_addHill 23 = .ok (.getfield 23, 3) := by decide +kernel
theorem dX4_addHill_26 : decode cX4_addHill 26 = .ok (.iconst 1, 1) := by decide +kernel
theorem dX4_addHill_27 : decode cX4_addHill 27 = .ok (.iadd, 1) := by decide +kernel
theorem dX4_addHill_28 : decode cX4_addHill 28 = .ok (.putfield 23, 3) := by decide +kernel
theorem dX4_addHill_31 : decode cX4_addHill 31 = .ok (.return_, 1) := by decide +kernel
theorem dX4_addCloud_0 : decode cX4_addCloud 0 = .ok (.aload_n 0, 1) := by decide +kernel
theorem dX4_addCloud_1 : decode cX4_addCloud 1 = .ok (.getfield 27, 3) := by decide +kernel
theorem dX4_addCloud_4 : decode cX4_addCloud 4 = .ok (.iconst 4, 1) := by decide +kernel
theorem dX4_addCloud_5 : decode cX4_addCloud 5 = .ok (.if_icmp .ge 26, 3) := by decide +kernel
theorem dX4_addCloud_8 : decode cX4_addCloud 8 = .ok (.aload_n 1, 1) := by decide +kernel
theorem dX4_addCloud_9 : decode cX4_addCloud 9 = .ok (.aload_n 0, 1) := by decide +kernel
theorem dX4_addCloud_10 : decode cX4_addCloud 10 = .ok (.getfield 16, 3) := by decide +kernel
theorem dX4_addCloud_13 : decode cX4_addCloud 13 = .ok (.aload_n 0, 1) := by decide +kernel
theorem dX4_addCloud_14 : decode cX4_addCloud 14 = .ok (.getfield 27, 3) := by decide +kernel
theorem dX4_addCloud_17 : decode cX4_addCloud 17 = .ok (.aaload, 1) := by decide +kernel
theorem dX4_addCloud_18 : decode cX4_addCloud 18 = .ok (.invokestatic 37, 3) := by decide +kernel
theorem dX4_addCloud_21 : decode cX4_addCloud 21 = .ok (.aload_n 0, 1) := by decide +kernel
theorem dX4_addCloud_22 : decode cX4_addCloud 22 = .ok (.dup, 1) := by decide +kernel
theorem dX4_addCloud_23 : decode cX4_addCloud 23 = .ok (.getfield 27, 3) := by decide +kernel
theorem dX4_addCloud_26 : decode cX4_addCloud 26 = .ok (.iconst 1, 1) := by decide +kernel
theorem dX4_addCloud_27 : decode cX4_addCloud 27 = .ok (.iadd, 1) := by decide +kernel
theorem dX4_addCloud_28 : decode cX4_addCloud 28 = .ok (.putfield 27, 3) := by decide +kernel
theorem dX4_addCloud_31 : decode cX4_addCloud 31 = .ok (.return_, 1) := by decide +kernel
theorem dX4_addCliff_0 : decode cX4_addCliff 0 = .ok (.iload_n 1, 1) := by decide +kernel
theorem dX4_addCliff_1 : decode cX4_addCliff 1 = .ok (.bipush 6, 2) := by decide +kernel
theorem dX4_addCliff_3 : decode cX4_addCliff 3 = .ok (.invokestatic 33, 3) := by decide +kernel
theorem dX4_addCliff_6 : decode cX4_addCliff 6 = .ok (.ifCond .eq 22, 3) := by decide +kernel
theorem dX4_addCliff_9 : decode cX4_addCliff 9 = .ok (.aload_n 0, 1) := by decide +kernel
theorem dX4_addCliff_10 : decode cX4_addCliff 10 = .ok (.dup, 1) := by decide +kernel
theorem dX4_addCliff_11 : decode cX4_addCliff 11 = .ok (.getfield 30, 3) := by decide +kernel
theorem dX4_addCliff_14 : decode cX4_addCliff 14 = .ok (.iconst 1, 1) := by decide +kernel
theorem dX4_addCliff_15 : decode cX4_addCliff 15 = .ok (.iload_n 1, 1) := by decide +kernel
theorem dX4_addCliff_16 : decode cX4_addCliff 16 = .ok (.ishl, 1) := by decide +kernel
theorem dX4_addCliff_17 : decode cX4_addCliff 17 = .ok (.ior, 1) := by decide +kernel
theorem dX4_addCliff_18 : decode cX4_addCliff 18 = .ok (.putfield 30, 3) := by decide +kernel
theorem dX4_addCliff_21 : decode cX4_addCliff 21 = .ok (.aload_n 0, 1) := by decide +kernel
theorem dX4_addCliff_22 : decode cX4_addCliff 22 = .ok (.getfield 19, 3) := by decide +kernel
theorem dX4_addCliff_25 : decode cX4_addCliff 25 = .ok (.iload_n 1, 1) := by decide +kernel
theorem dX4_addCliff_26 : decode cX4_addCliff 26 = .ok (.iload_n 2, 1) := by decide +kernel
theorem dX4_addCliff_27 : decode cX4_addCliff 27 = .ok (.iastore, 1) := by decide +kernel
theorem dX4_addCliff_28 : decode cX4_addCliff 28 = .ok (.return_, 1) := by decide +kernel
theorem dX4_sunnyCells_0 : decode cX4_sunnyCells 0 = .ok (.aload_n 0, 1) := by decide +kernel
theorem dX4_sunnyCells_1 : decode cX4_sunnyCells 1 = .ok (.iload_n 2, 1) := by decide +kernel
theorem dX4_sunnyCells_2 : decode cX4_sunnyCells 2 = .ok (.invokevirtual 41, 3) := by decide +kernel
theorem dX4_sunnyCells_5 : decode cX4_sunnyCells 5 = .ok (.ifCond .eq 15, 3) := by decide +kernel
theorem dX4_sunnyCells_8 : decode cX4_sunnyCells 8 = .ok (.iload_n 1, 1) := by decide +kernel
theorem dX4_sunnyCells_9 : decode cX4_sunnyCells 9 = .ok (.aload_n 0, 1) := by decide +kernel
theorem dX4_sunnyCells_10 : decode cX4_sunnyCells 10 = .ok (.getfield 19, 3) := by decide +kernel
theorem dX4_sunnyCells_13 : decode cX4_sunnyCells 13 = .ok (.iload_n 2, 1) := by decide +kernel
theorem dX4_sunnyCells_14 : decode cX4_sunnyCells 14 = .ok (.iaload, 1) := by decide +kernel
theorem dX4_sunnyCells_15 : decode cX4_sunnyCells 15 = .ok (.if_icmp .ge 5, 3) := by decide +kernel
theorem dX4_sunnyCells_18 : decode cX4_sunnyCells 18 = .ok (.iconst 0, 1) := by decide +kernel
theorem dX4_sunnyCells_19 : decode cX4_sunnyCells 19 = .ok (.ireturn, 1) := by decide +kernel
theorem dX4_sunnyCells_20 : decode cX4_sunnyCells 20 = .ok (.sipush 1023, 3) := by decide +kernel
theorem dX4_sunnyCells_23 : decode cX4_sunnyCells 23 = .ok (.istore_n 3, 1) := by decide +kernel
theorem dX4_sunnyCells_24 : decode cX4_sunnyCells 24 = .ok (.iconst 0, 1) := by decide +kernel
theorem dX4_sunnyCells_25 : decode cX4_sunnyCells 25 = .ok (.istore 4, 2) := by decide +kernel
theorem dX4_sunnyCells_27 : decode cX4_sunnyCells 27 = .ok (.iload 4, 2) := by decide +kernel
theorem dX4_sunnyCells_29 : decode cX4_sunnyCells 29 = .ok (.aload_n 0, 1) := by decide +kernel
theorem dX4_sunnyCells_30 : decode cX4_sunnyCells 30 = .ok (.getfield 27, 3) := by decide +kernel
theorem dX4_sunnyCells_33 : decode cX4_sunnyCells 33 = .ok (.if_icmp .ge 50, 3) := by decide +kernel
theorem dX4_sunnyCells_36 : decode cX4_sunnyCells 36 = .ok (.aload_n 0, 1) := by decide +kernel
theorem dX4_sunnyCells_37 : decode cX4_sunnyCells 37 = .ok (.getfield 16, 3) := by decide +kernel
theorem dX4_sunnyCells_40 : decode cX4_sunnyCells 40 = .ok (.iload 4, 2) := by decide +kernel
theorem dX4_sunnyCells_42 : decode cX4_sunnyCells 42 = .ok (.aaload, 1) := by decide +kernel
theorem dX4_sunnyCells_43 : decode cX4_sunnyCells 43 = .ok (.astore 5, 2) := by decide +kernel
theorem dX4_sunnyCells_45 : decode cX4_sunnyCells 45 = .ok (.iload_n 1, 1) := by decide +kernel
theorem dX4_sunnyCells_46 : decode cX4_sunnyCells 46 = .ok (.aload 5, 2) := by decide +kernel
theorem dX4_sunnyCells_48 : decode cX4_sunnyCells 48 = .ok (.iconst 2, 1) := by decide +kernel
theorem dX4_sunnyCells_49 : decode cX4_sunnyCells 49 = .ok (.iaload, 1) := by decide +kernel
theorem dX4_sunnyCells_50 : decode cX4_sunnyCells 50 = .ok (.if_icmp .lt 27, 3) := by decide +kernel
theorem dX4_sunnyCells_53 : decode cX4_sunnyCells 53 = .ok (.iload_n 1, 1) := by decide +kernel
theorem dX4_sunnyCells_54 : decode cX4_sunnyCells 54 = .ok (.aload 5, 2) := by decide +kernel
theorem dX4_sunnyCells_56 : decode cX4_sunnyCells 56 = .ok (.iconst 3, 1) := by decide +kernel
theorem dX4_sunnyCells_57 : decode cX4_sunnyCells 57 = .ok (.iaload, 1) := by decide +kernel
theorem dX4_sunnyCells_58 : decode cX4_sunnyCells 58 = .ok (.if_icmp .gt 19, 3) := by decide +kernel
theorem dX4_sunnyCells_61 : decode cX4_sunnyCells 61 = .ok (.iload_n 3, 1) := by decide +kernel
theorem dX4_sunnyCells_62 : decode cX4_sunnyCells 62 = .ok (.aload 5, 2) := by decide +kernel
theorem dX4_sunnyCells_64 : decode cX4_sunnyCells 64 = .ok (.iconst 0, 1) := by decide +kernel
theorem dX4_sunnyCells_65 : decode cX4_sunnyCells 65 = .ok (.iaload, 1) := by decide +kernel
theorem dX4_sunnyCells_66 : decode cX4_sunnyCells 66 = .ok (.aload 5, 2) := by decide +kernel
theorem dX4_sunnyCells_68 : decode cX4_sunnyCells 68 = .ok (.iconst 1, 1) := by decide +kernel
theorem dX4_sunnyCells_69 : decode cX4_sunnyCells 69 = .ok (.iaload, 1) := by decide +kernel
theorem dX4_sunnyCells_70 : decode cX4_sunnyCells 70 = .ok (.invokestatic 45, 3) := by decide +kernel
theorem dX4_sunnyCells_73 : decode cX4_sunnyCells 73 = .ok (.iconst (-1), 1) := by decide +kernel
theorem dX4_sunnyCells_74 : decode cX4_sunnyCells 74 = .ok (.ixor, 1) := by decide +kernel
theorem dX4_sunnyCells_75 : decode cX4_sunnyCells 75 = .ok (.iand, 1) := by decide +kernel
theorem dX4_sunnyCells_76 : decode cX4_sunnyCells 76 = .ok (.istore_n 3, 1) := by decide +kernel
theorem dX4_sunnyCells_77 : decode cX4_sunnyCells 77 = .ok (.iinc 4 1, 3) := by decide +kernel
theorem dX4_sunnyCells_80 : decode cX4_sunnyCells 80 = .ok (.goto (-53), 3) := by decide +kernel
theorem dX4_sunnyCells_83 : decode cX4_sunnyCells 83 = .ok (.iload_n 3, 1) := by decide +kernel
theorem dX4_sunnyCells_84 : decode cX4_sunnyCells 84 = .ok (.ireturn, 1) := by decide +kernel
theorem dX4_view_0 : decode cX4_view 0 = .ok (.aload_n 0, 1) := by decide +kernel
theorem dX4_view_1 : decode cX4_view 1 = .ok (.getfield 13, 3) := by decide +kernel
theorem dX4_view_4 : decode cX4_view 4 = .ok (.iload_n 1, 1) := by decide +kernel
theorem dX4_view_5 : decode cX4_view 5 = .ok (.aaload, 1) := by decide +kernel
theorem dX4_view_6 : decode cX4_view 6 = .ok (.astore_n 3, 1) := by decide +kernel
theorem dX4_view_7 : decode cX4_view 7 = .ok (.iload_n 2, 1) := by decide +kernel
theorem dX4_view_8 : decode cX4_view 8 = .ok (.aload_n 3, 1) := by decide +kernel
theorem dX4_view_9 : decode cX4_view 9 = .ok (.iconst 2, 1) := by decide +kernel
theorem dX4_view_10 : decode cX4_view 10 = .ok (.iaload, 1) := by decide +kernel
theorem dX4_view_11 : decode cX4_view 11 = .ok (.if_icmp .lt 22, 3) := by decide +kernel
theorem dX4_view_14 : decode cX4_view 14 = .ok (.iload_n 2, 1) := by decide +kernel
theorem dX4_view_15 : decode cX4_view 15 = .ok (.aload_n 3, 1) := by decide +kernel
theorem dX4_view_16 : decode cX4_view 16 = .ok (.iconst 3, 1) := by decide +kernel
theorem dX4_view_17 : decode cX4_view 17 = .ok (.iaload, 1) := by decide +kernel
theorem dX4_view_18 : decode cX4_view 18 = .ok (.if_icmp .gt 15, 3) := by decide +kernel
theorem dX4_view_21 : decode cX4_view 21 = .ok (.aload_n 3, 1) := by decide +kernel
theorem dX4_view_22 : decode cX4_view 22 = .ok (.iconst 0, 1) := by decide +kernel
theorem dX4_view_23 : decode cX4_view 23 = .ok (.iaload, 1) := by decide +kernel
theorem dX4_view_24 : decode cX4_view 24 = .ok (.aload_n 3, 1) := by decide +kernel
theorem dX4_view_25 : decode cX4_view 25 = .ok (.iconst 1, 1) := by decide +kernel
theorem dX4_view_26 : decode cX4_view 26 = .ok (.iaload, 1) := by decide +kernel
theorem dX4_view_27 : decode cX4_view 27 = .ok (.invokestatic 45, 3) := by decide +kernel
theorem dX4_view_30 : decode cX4_view 30 = .ok (.goto 4, 3) := by decide +kernel
theorem dX4_view_33 : decode cX4_view 33 = .ok (.iconst 0, 1) := by decide +kernel
theorem dX4_view_34 : decode cX4_view 34 = .ok (.ireturn, 1) := by decide +kernel
theorem dX4_copyFrom_0 : decode cX4_copyFrom 0 = .ok (.aload_n 0, 1) := by decide +kernel
theorem dX4_copyFrom_1 : decode cX4_copyFrom 1 = .ok (.aload_n 1, 1) := by decide +kernel
theorem dX4_copyFrom_2 : decode cX4_copyFrom 2 = .ok (.getfield 23, 3) := by decide +kernel
theorem dX4_copyFrom_5 : decode cX4_copyFrom 5 = .ok (.putfield 23, 3) := by decide +kernel
theorem dX4_copyFrom_8 : decode cX4_copyFrom 8 = .ok (.iconst 0, 1) := by decide +kernel
theorem dX4_copyFrom_9 : decode cX4_copyFrom 9 = .ok (.istore_n 2, 1) := by decide +kernel
theorem dX4_copyFrom_10 : decode cX4_copyFrom 10 = .ok (.iload_n 2, 1) := by decide +kernel
theorem dX4_copyFrom_11 : decode cX4_copyFrom 11 = .ok (.aload_n 0, 1) := by decide +kernel
theorem dX4_copyFrom_12 : decode cX4_copyFrom 12 = .ok (.getfield 23, 3) := by decide +kernel
theorem dX4_copyFrom_15 : decode cX4_copyFrom 15 = .ok (.if_icmp .ge 24, 3) := by decide +kernel
theorem dX4_copyFrom_18 : decode cX4_copyFrom 18 = .ok (.aload_n 1, 1) := by decide +kernel
theorem dX4_copyFrom_19 : decode cX4_copyFrom 19 = .ok (.getfield 13, 3) := by decide +kernel
theorem dX4_copyFrom_22 : decode cX4_copyFrom 22 = .ok (.iload_n 2, 1) := by decide +kernel
theorem dX4_copyFrom_23 : decode cX4_copyFrom 23 = .ok (.aaload, 1) := by decide +kernel
theorem dX4_copyFrom_24 : decode cX4_copyFrom 24 = .ok (.aload_n 0, 1) := by decide +kernel
theorem dX4_copyFrom_25 : decode cX4_copyFrom 25 = .ok (.getfield 13, 3) := by decide +kernel
theorem dX4_copyFrom_28 : decode cX4_copyFrom 28 = .ok (.iload_n 2, 1) := by decide +kernel
theorem dX4_copyFrom_29 : decode cX4_copyFrom 29 = .ok (.aaload, 1) := by decide +kernel
theorem dX4_copyFrom_30 : decode cX4_copyFrom 30 = .ok (.invokestatic 37, 3) := by decide +kernel
theorem dX4_copyFrom_33 : decode cX4_copyFrom 33 = .ok (.iinc 2 1, 3) := by decide +kernel
theorem dX4_copyFrom_36 : decode cX4_copyFrom 36 = .ok (.goto (-26), 3) := by decide +kernel
theorem dX4_copyFrom_39 : decode cX4_copyFrom 39 = .ok (.aload_n 0, 1) := by decide +kernel
theorem dX4_copyFrom_40 : decode cX4_copyFrom 40 = .ok (.aload_n 1, 1) := by decide +kernel
theorem dX4_copyFrom_41 : decode cX4_copyFrom 41 = .ok (.getfield 27, 3) := by decide +kernel
theorem dX4_copyFrom_44 : decode cX4_copyFrom 44 = .ok (.putfield 27, 3) := by decide +kernel
theorem dX4_copyFrom_47 : decode cX4_copyFrom 47 = .ok (.iconst 0, 1) := by decide +kernel
theorem dX4_copyFrom_48 : decode cX4_copyFrom 48 = .ok (.istore_n 2, 1) := by decide +kernel
theorem dX4_copyFrom_49 : decode cX4_copyFrom 49 = .ok (.iload_n 2, 1) := by decide +kernel
theorem dX4_copyFrom_50 : decode cX4_copyFrom 50 = .ok (.aload_n 0, 1) := by decide +kernel
theorem dX4_copyFrom_51 : decode cX4_copyFrom 51 = .ok (.getfield 27, 3) := by decide +kernel
theorem dX4_copyFrom_54 : decode cX4_copyFrom 54 = .ok (.if_icmp .ge 24, 3) := by decide +kernel
theorem dX4_copyFrom_57 : decode cX4_copyFrom 57 = .ok (.aload_n 1, 1) := by decide +kernel
theorem dX4_copyFrom_58 : decode cX4_copyFrom 58 = .ok (.getfield 16, 3) := by decide +kernel
theorem dX4_copyFrom_61 : decode cX4_copyFrom 61 = .ok (.iload_n 2, 1) := by decide +kernel
theorem dX4_copyFrom_62 : decode cX4_copyFrom 62 = .ok (.aaload, 1) := by decide +kernel
theorem dX4_copyFrom_63 : decode cX4_copyFrom 63 = .ok (.aload_n 0, 1) := by decide +kernel
theorem dX4_copyFrom_64 : decode cX4_copyFrom 64 = .ok (.getfield 16, 3) := by decide +kernel
theorem dX4_copyFrom_67 : decode cX4_copyFrom 67 = .ok (.iload_n 2, 1) := by decide +kernel
theorem dX4_copyFrom_68 : decode cX4_copyFrom 68 = .ok (.aaload, 1) := by decide +kernel
theorem dX4_copyFrom_69 : decode cX4_copyFrom 69 = .ok (.invokestatic 37, 3) := by decide +kernel
theorem dX4_copyFrom_72 : decode cX4_copyFrom 72 = .ok (.iinc 2 1, 3) := by decide +kernel
theorem dX4_copyFrom_75 : decode cX4_copyFrom 75 = .ok (.goto (-26), 3) := by decide +kernel
theorem dX4_copyFrom_78 : decode cX4_copyFrom 78 = .ok (.aload_n 0, 1) := by decide +kernel
theorem dX4_copyFrom_79 : decode cX4_copyFrom 79 = .ok (.aload_n 1, 1) := by decide +kernel
theorem dX4_copyFrom_80 : decode cX4_copyFrom 80 = .ok (.getfield 30, 3) := by decide +kernel
theorem dX4_copyFrom_83 : decode cX4_copyFrom 83 = .ok (.putfield 30, 3) := by decide +kernel
theorem dX4_copyFrom_86 : decode cX4_copyFrom 86 = .ok (.aload_n 1, 1) := by decide +kernel
theorem dX4_copyFrom_87 : decode cX4_copyFrom 87 = .ok (.getfield 19, 3) := by decide +kernel
theorem dX4_copyFrom_90 : decode cX4_copyFrom 90 = .ok (.iconst 0, 1) := by decide +kernel
theorem dX4_copyFrom_91 : decode cX4_copyFrom 91 = .ok (.aload_n 0, 1) := by decide +kernel
theorem dX4_copyFrom_92 : decode cX4_copyFrom 92 = .ok (.getfield 19, 3) := by decide +kernel
theorem dX4_copyFrom_95 : decode cX4_copyFrom 95 = .ok (.iconst 0, 1) := by decide +kernel
theorem dX4_copyFrom_96 : decode cX4_copyFrom 96 = .ok (.bipush 6, 2) := by decide +kernel
theorem dX4_copyFrom_98 : decode cX4_copyFrom 98 = .ok (.invokestatic 49, 3) := by decide +kernel
theorem dX4_copyFrom_101 : decode cX4_copyFrom 101 = .ok (.return_, 1) := by decide +kernel
theorem dX4_copyFour_0 : decode cX4_copyFour 0 = .ok (.aload_n 0, 1) := by decide +kernel
theorem dX4_copyFour_1 : decode cX4_copyFour 1 = .ok (.iconst 0, 1) := by decide +kernel
theorem dX4_copyFour_2 : decode cX4_copyFour 2 = .ok (.aload_n 1, 1) := by decide +kernel
theorem dX4_copyFour_3 : decode cX4_copyFour 3 = .ok (.iconst 0, 1) := by decide +kernel
theorem dX4_copyFour_4 : decode cX4_copyFour 4 = .ok (.iconst 4, 1) := by decide +kernel
theorem dX4_copyFour_5 : decode cX4_copyFour 5 = .ok (.invokestatic 49, 3) := by decide +kernel
theorem dX4_copyFour_8 : decode cX4_copyFour 8 = .ok (.return_, 1) := by decide +kernel
theorem dX5_init_0 : decode cX5_init 0 = .ok (.aload_n 0, 1) := by decide +kernel
theorem dX5_init_1 : decode cX5_init 1 = .ok (.invokespecial 3, 3) := by decide +kernel
theorem dX5_init_4 : decode cX5_init 4 = .ok (.aload_n 0, 1) := by decide +kernel
theorem dX5_init_5 : decode cX5_init 5 = .ok (.new 9, 3) := by decide +kernel
theorem dX5_init_8 : decode cX5_init 8 = .ok (.dup, 1) := by decide +kernel
theorem dX5_init_9 : decode cX5_init 9 = .ok (.invokespecial 11, 3) := by decide +kernel
theorem dX5_init_12 : decode cX5_init 12 = .ok (.putfield 12, 3) := by decide +kernel
theorem dX5_init_15 : decode cX5_init 15 = .ok (.aload_n 0, 1) := by decide +kernel
theorem dX5_init_16 : decode cX5_init 16 = .ok (.iconst 4, 1) := by decide +kernel
theorem dX5_init_17 : decode cX5_init 17 = .ok (.newarray .int, 2) := by decide +kernel
theorem dX5_init_19 : decode cX5_init 19 = .ok (.putfield 18, 3) := by decide +kernel
theorem dX5_init_22 : decode cX5_init 22 = .ok (.return_, 1) := by decide +kernel
theorem dX5_firstFault_0 : decode cX5_firstFault 0 = .ok (.aload_n 0, 1) := by decide +kernel
theorem dX5_firstFault_1 : decode cX5_firstFault 1 = .ok (.getfield 12, 3) := by decide +kernel
theorem dX5_firstFault_4 : decode cX5_firstFault 4 = .ok (.invokevirtual 22, 3) := by decide +kernel
theorem dX5_firstFault_7 : decode cX5_firstFault 7 = .ok (.aload_n 0, 1) := by decide +kernel
theorem dX5_firstFault_8 : decode cX5_firstFault 8 = .ok (.iconst 0, 1) := by decide +kernel
theorem dX5_firstFault_9 : decode cX5_firstFault 9 = .ok (.putfield 25, 3) := by decide +kernel
theorem dX5_firstFault_12 : decode cX5_firstFault 12 = .ok (.aload_n 0, 1) := by decide +kernel
theorem dX5_firstFault_13 : decode cX5_firstFault 13 = .ok (.iconst 0, 1) := by decide +kernel
theorem dX5_firstFault_14 : decode cX5_firstFault 14 = .ok (.putfield 29, 3) := by decide +kernel
theorem dX5_firstFault_17 : decode cX5_firstFault 17 = .ok (.aload_n 0, 1) := by decide +kernel
theorem dX5_firstFault_18 : decode cX5_firstFault 18 = .ok (.iconst 0, 1) := by decide +kernel
theorem dX5_firstFault_19 : decode cX5_firstFault 19 = .ok (.putfield 32, 3) := by decide +kernel
theorem dX5_firstFault_22 : decode cX5_firstFault 22 = .ok (.iconst 0, 1) := by decide +kernel
theorem dX5_firstFault_23 : decode cX5_firstFault 23 = .ok (.istore_n 2, 1) := by decide +kernel
theorem dX5_firstFault_24 : decode cX5_firstFault 24 = .ok (.iload_n 2, 1) := by decide +kernel
theorem dX5_firstFault_25 : decode cX5_firstFault 25 = .ok (.aload_n 1, 1) := by decide +kernel
theorem dX5_firstFault_26 : decode cX5_firstFault 26 = .ok (.getfield 36, 3) := by decide +kernel
theorem dX5_firstFault_29 : decode cX5_firstFault 29 = .ok (.if_icmp .ge 28, 3) := by decide +kernel
theorem dX5_firstFault_32 : decode cX5_firstFault 32 = .ok (.aload_n 0, 1) := by decide +kernel
theorem dX5_firstFault_33 : decode cX5_firstFault 33 = .ok (.aload_n 1, 1) := by decide +kernel
theorem dX5_firstFault_34 : decode cX5_firstFault 34 = .ok (.getfield 41, 3) := by decide +kernel
theorem dX5_firstFault_37 : decode cX5_firstFault 37 = .ok (.iload_n 2, 1) := by decide +kernel
theorem dX5_firstFault_38 : decode cX5_firstFault 38 = .ok (.baload, 1) := by decide +kernel
theorem dX5_firstFault_39 : decode cX5_firstFault 39 = .ok (.sipush 255, 3) := by decide +kernel
theorem dX5_firstFault_42 : decode cX5_firstFault 42 = .ok (.iand, 1) := by decide +kernel
theorem dX5_firstFault_43 : decode cX5_firstFault 43 = .ok (.invokevirtual 45, 3) := by decide +kernel
theorem dX5_firstFault_46 : decode cX5_firstFault 46 = .ok (.ifCond .ne 5, 3) := by decide +kernel
theorem dX5_firstFault_49 : decode cX5_firstFault 49 = .ok (.iload_n 2, 1) := by decide +kernel
theorem dX5_firstFault_50 : decode cX5_firstFault 50 = .ok (.ireturn, 1) := by decide +kernel
theorem dX5_firstFault_51 : decode cX5_firstFault 51 = .ok (.iinc 2 1, 3) := by decide +kernel
theorem dX5_firstFault_54 : decode cX5_firstFault 54 = .ok (.goto (-30), 3) := by decide +kernel
theorem dX5_firstFault_57 : decode cX5_firstFault 57 = .ok (.aload_n 0, 1) := by decide +kernel
theorem dX5_firstFault_58 : decode cX5_firstFault 58 = .ok (.getfield 32, 3) := by decide +kernel
theorem dX5_firstFault_61 : decode cX5_firstFault 61 = .ok (.ifCond .eq 15, 3) := by decide +kernel
theorem dX5_firstFault_64 : decode cX5_firstFault 64 = .ok (.aload_n 0, 1) := by decide +kernel
theorem dX5_firstFault_65 : decode cX5_firstFault 65 = .ok (.getfield 29, 3) := by decide +kernel
theorem dX5_firstFault_68 : decode cX5_firstFault 68 = .ok (.ifCond .ne 8, 3) := by decide +kernel
theorem dX5_firstFault_71 : decode cX5_firstFault 71 = .ok (.bipush (-9), 2) := by decide +kernel
theorem dX5_firstFault_73 : decode cX5_firstFault 73 = .ok (.goto 7, 3) := by decide +kernel
theorem dX5_firstFault_76 : decode cX5_firstFault 76 = .ok (.aload_n 1, 1) := by decide +kernel
theorem dX5_firstFault_77 : decode cX5_firstFault 77 = .ok (.getfield 36, 3) := by decide +kernel
theorem dX5_firstFault_80 : decode cX5_firstFault 80 = .ok (.ireturn, 1) := by decide +kernel
theorem dX5_accepts_0 : decode cX5_accepts 0 = .ok (.aload_n 0, 1) := by decide +kernel
theorem dX5_accepts_1 : decode cX5_accepts 1 = .ok (.getfield 32, 3) := by decide +kernel
theorem dX5_accepts_4 : decode cX5_accepts 4 = .ok (.ifCond .ne 23, 3) := by decide +kernel
theorem dX5_accepts_7 : decode cX5_accepts 7 = .ok (.aload_n 0, 1) := by decide +kernel
theorem dX5_accepts_8 : decode cX5_accepts 8 = .ok (.iload_n 1, 1) := by decide +kernel
theorem dX5_accepts_9 : decode cX5_accepts 9 = .ok (.bipush 71, 2) := by decide +kernel
theorem dX5_accepts_11 : decode cX5_accepts 11 = .ok (.if_icmp .ne 7, 3) := by decide +kernel
theorem dX5_accepts_14 : decode cX5_accepts 14 = .ok (.iconst 1, 1) := by decide +kernel
theorem dX5_accepts_15 : decode cX5_accepts 15 = .ok (.goto 4, 3) := by decide +kernel
theorem dX5_accepts_18 : decode cX5_accepts 18 = .ok (.iconst 0, 1) := by decide +kernel
theorem dX5_accepts_19 : decode cX5_accepts 19 = .ok (.putfield 32, 3) := by decide +kernel
theorem dX5_accepts_22 : decode cX5_accepts 22 = .ok (.aload_n 0, 1) := by decide +kernel
theorem dX5_accepts_23 : decode cX5_accepts 23 = .ok (.getfield 32, 3) := by decide +kernel
theorem dX5_accepts_26 : decode cX5_accepts 26 = .ok (.ireturn, 1) := by decide +kernel
theorem dX5_accepts_27 : decode cX5_accepts 27 = .ok (.aload_n 0, 1) := by decide +kernel
theorem dX5_accepts_28 : decode cX5_accepts 28 = .ok (.getfield 29, 3) := by decide +kernel
theorem dX5_accepts_31 : decode cX5_accepts 31 = .ok (.ifCond .ne 33, 3) := by decide +kernel
theorem dX5_accepts_34 : decode cX5_accepts 34 = .ok (.aload_n 0, 1) := by decide +kernel
theorem dX5_accepts_35 : decode cX5_accepts 35 = .ok (.aload_n 0, 1) := by decide +kernel
theorem dX5_accepts_36 : decode cX5_accepts 36 = .ok (.iload_n 1, 1) := by decide +kernel
theorem dX5_accepts_37 : decode cX5_accepts 37 = .ok (.invokevirtual 49, 3) := by decide +kernel
theorem dX5_accepts_40 : decode cX5_accepts 40 = .ok (.ifCond .eq 7, 3) := by decide +kernel
theorem dX5_accepts_43 : decode cX5_accepts 43 = .ok (.iload_n 1, 1) := by decide +kernel
theorem dX5_accepts_44 : decode cX5_accepts 44 = .ok (.goto 4, 3) := by decide +kernel
theorem dX5_accepts_47 : decode cX5_accepts 47 = .ok (.iconst 0, 1) := by decide +kernel
theorem dX5_accepts_48 : decode cX5_accepts 48 = .ok (.putfield 29, 3) := by decide +kernel
theorem dX5_accepts_51 : decode cX5_accepts 51 = .ok (.aload_n 0, 1) := by decide +kernel
theorem dX5_accepts_52 : decode cX5_accepts 52 = .ok (.getfield 29, 3) := by decide +kernel
theorem dX5_accepts_55 : decode cX5_accepts 55 = .ok (.ifCond .eq 7, 3) := by decide +kernel
theorem dX5_accepts_58 : decode cX5_accepts 58 = .ok (.iconst 1, 1) := by decide +kernel
theorem dX5_accepts_59 : decode cX5_accepts 59 = .ok (.goto 4, 3) := by decide +kernel
theorem dX5_accepts_62 : decode cX5_accepts 62 = .ok (.iconst 0, 1) := by decide +kernel
theorem dX5_accepts_63 : decode cX5_accepts 63 = .ok (.ireturn, 1) := by decide +kernel
theorem dX5_accepts_64 : decode cX5_accepts 64 = .ok (.aload_n 0, 1) := by decide +kernel
theorem dX5_accepts_65 : decode cX5_accepts 65 = .ok (.getfield 29, 3) := by decide +kernel
theorem dX5_accepts_68 : decode cX5_accepts 68 = .ok (.bipush 66, 2) := by decide +kernel
theorem dX5_accepts_70 : decode cX5_accepts 70 = .ok (.if_icmp .ne 20, 3) := by decide +kernel
theorem dX5_accepts_73 : decode cX5_accepts 73 = .ok (.aload_n 0, 1) := by decide +kernel
theorem dX5_accepts_74 : decode cX5_accepts 74 = .ok (.getfield 25, 3) := by decide +kernel
theorem dX5_accepts_77 : decode cX5_accepts 77 = .ok (.ifCond .ne 13, 3) := by decide +kernel
theorem dX5_accepts_80 : decode cX5_accepts 80 = .ok (.ldc 52, 2) := by decide +kernel
theorem dX5_accepts_82 : decode cX5_accepts 82 = .ok (.iload_n 1, 1) := by decide +kernel
theorem dX5_accepts_83 : decode cX5_accepts 83 = .ok (.i2c, 1) := by decide +kernel
theorem dX5_accepts_84 : decode cX5_accepts 84 = .ok (.invokevirtual 54, 3) := by decide +kernel
theorem dX5_accepts_87 : decode cX5_accepts 87 = .ok (.goto 7, 3) := by decide +kernel
theorem dX5_accepts_90 : decode cX5_accepts 90 = .ok (.iload_n 1, 1) := by decide +kernel
theorem dX5_accepts_91 : decode cX5_accepts 91 = .ok (.invokestatic 60, 3) := by decide +kernel
theorem dX5_accepts_94 : decode cX5_accepts 94 = .ok (.istore_n 2, 1) := by decide +kernel
theorem dX5_accepts_95 : decode cX5_accepts 95 = .ok (.aload_n 0, 1) := by decide +kernel
theorem dX5_accepts_96 : decode cX5_accepts 96 = .ok (.getfield 25, 3) := by decide +kernel
theorem dX5_accepts_99 : decode cX5_accepts 99 = .ok (.aload_n 0, 1) := by decide +kernel
theorem dX5_accepts_100 : decode cX5_accepts 100 = .ok (.getfield 18, 3) := by decide +kernel
theorem dX5_accepts_103 : decode cX5_accepts 103 = .ok (.arraylength, 1) := by decide +kernel
theorem dX5_accepts_104 : decode cX5_accepts 104 = .ok (.invokestatic 63, 3) := by decide +kernel
theorem dX5_accepts_107 : decode cX5_accepts 107 = .ok (.ifCond .eq 11, 3) := by decide +kernel
theorem dX5_accepts_110 : decode cX5_accepts 110 = .ok (.aload_n 0, 1) := by decide +kernel
theorem dX5_accepts_111 : decode cX5_accepts 111 = .ok (.iload_n 2, 1) := by decide +kernel
theorem dX5_accepts_112 : decode cX5_accepts 112 = .ok (.invokevirtual 67, 3) := by decide +kernel
theorem dX5_accepts_115 : decode cX5_accepts 115 = .ok (.ifCond .ne 5, 3) := by decide +kernel
theorem dX5_accepts_118 : decode cX5_accepts 118 = .ok (.iconst 0, 1) := by decide +kernel
theorem dX5_accepts_119 : decode cX5_accepts 119 = .ok (.ireturn, 1) := by decide +kernel
theorem dX5_accepts_120 : decode cX5_accepts 120 = .ok (.aload_n 0, 1) := by decide +kernel
theorem dX5_accepts_121 : decode cX5_accepts 121 = .ok (.getfield 18, 3) := by decide +kernel
theorem dX5_accepts_124 : decode cX5_accepts 124 = .ok (.aload_n 0, 1) := by decide +kernel
theorem dX5_accepts_125 : decode cX5_accepts 125 = .ok (.getfield 25, 3) := by decide +kernel
theorem dX5_accepts_128 : decode cX5_accepts 128 = .ok (.iload_n 2, 1) := by decide +kernel
theorem dX5_accepts_129 : decode cX5_accepts 129 = .ok (.iastore, 1) := by decide +kernel
theorem dX5_accepts_130 : decode cX5_accepts 130 = .ok (.aload_n 0, 1) := by decide +kernel
theorem dX5_accepts_131 : decode cX5_accepts 131 = .ok (.dup, 1) := by decide +kernel
theorem dX5_accepts_132 : decode cX5_accepts 132 = .ok (.getfield 25, 3) := by decide +kernel
theorem dX5_accepts_135 : decode cX5_accepts 135 = .ok (.iconst 1, 1) := by decide +kernel
theorem dX5_accepts_136 : decode cX5_accepts 136 = .ok (.iadd, 1) := by decide +kernel
theorem dX5_accepts_137 : decode cX5_accepts 137 = .ok (.putfield 25, 3) := by decide +kernel
theorem dX5_accepts_140 : decode cX5_accepts 140 = .ok (.aload_n 0, 1) := by decide +kernel
theorem dX5_accepts_141 : decode cX5_accepts 141 = .ok (.getfield 25, 3) := by decide +kernel
theorem dX5_accepts_144 : decode cX5_accepts 144 = .ok (.aload_n 0, 1) := by decide +kernel
theorem dX5_accepts_145 : decode cX5_accepts 145 = .ok (.invokevirtual 70, 3) := by decide +kernel
theorem dX5_accepts_148 : decode cX5_accepts 148 = .ok (.if_icmp .ne 7, 3) := by decide +kernel
theorem dX5_accepts_151 : decode cX5_accepts 151 = .ok (.aload_n 0, 1) := by decide +kernel
theorem dX5_accepts_152 : decode cX5_accepts 152 = .ok (.invokevirtual 74, 3) := by decide +kernel
theorem dX5_accepts_155 : decode cX5_accepts 155 = .ok (.iconst 1, 1) := by decide +kernel
theorem dX5_accepts_156 : decode cX5_accepts 156 = .ok (.ireturn, 1) := by decide +kernel
theorem dX5_opensPart_0 : decode cX5_opensPart 0 = .ok (.iload_n 1, 1) := by decide +kernel
theorem dX5_opensPart_1 : decode cX5_opensPart 1 = .ok (.lookupswitch 125 #[(66, 43), (72, 64), (76, 84), (79, 105)], 43) := by decide +kernel
theorem dX5_opensPart_44 : decode cX5_opensPart 44 = .ok (.aload_n 0, 1) := by decide +kernel
theorem dX5_opensPart_45 : decode cX5_opensPart 45 = .ok (.getfield 12, 3) := by decide +kernel
theorem dX5_opensPart_48 : decode cX5_opensPart 48 = .ok (.getfield 77, 3) := by decide +kernel
theorem dX5_opensPart_51 : decode cX5_opensPart 51 = .ok (.getfield 81, 3) := by decide +kernel
theorem dX5_opensPart_54 : decode cX5_opensPart 54 = .ok (.bipush 8, 2) := by decide +kernel
theorem dX5_opensPart_56 : decode cX5_opensPart 56 = .ok (.if_icmp .ge 7, 3) := by decide +kernel
theorem dX5_opensPart_59 : decode cX5_opensPart 59 = .ok (.iconst 1, 1) := by decide +kernel
theorem dX5_opensPart_60 : decode cX5_opensPart 60 = .ok (.goto 4, 3) := by decide +kernel
theorem dX5_opensPart_63 : decode cX5_opensPart 63 = .ok (.iconst 0, 1) := by decide +kernel
theorem dX5_opensPart_64 : decode cX5_opensPart 64 = .ok (.ireturn, 1) := by decide +kernel
theorem dX5_opensPart_65 : decode cX5_opensPart 65 = .ok (.aload_n 0, 1) := by decide +kernel
theorem dX5_opensPart_66 : decode cX5_opensPart 66 = .ok (.getfield 12, 3) := by decide +kernel
theorem dX5_opensPart_69 : decode cX5_opensPart 69 = .ok (.getfield 84, 3) := by decide +kernel
theorem dX5_opensPart_72 : decode cX5_opensPart 72 = .ok (.getfield 88, 3) := by decide +kernel
theorem dX5_opensPart_75 : decode cX5_opensPart 75 = .ok (.iconst 3, 1) := by decide +kernel
theorem dX5_opensPart_76 : decode cX5_opensPart 76 = .ok (.if_icmp .ge 7, 3) := by decide +kernel
theorem dX5_opensPart_79 : decode cX5_opensPart 79 = .ok (.iconst 1, 1) := by decide +kernel
theorem dX5_opensPart_80 : decode cX5_opensPart 80 = .ok (.goto 4, 3) := by decide +kernel
theorem dX5_opensPart_83 : decode cX5_opensPart 83 = .ok (.iconst 0, 1) := by decide +kernel
theorem dX5_opensPart_84 : decode cX5_opensPart 84 = .ok (.ireturn, 1) := by decide +kernel
theorem dX5_opensPart_85 : decode cX5_opensPart 85 = .ok (.aload_n 0, 1) := by decide +kernel
theorem dX5_opensPart_86 : decode cX5_opensPart 86 = .ok (.getfield 12, 3) := by decide +kernel
theorem dX5_opensPart_89 : decode cX5_opensPart 89 = .ok (.getfield 84, 3) := by decide +kernel
theorem dX5_opensPart_92 : decode cX5_opensPart 92 = .ok (.getfield 93, 3) := by decide +kernel
theorem dX5_opensPart_95 : decode cX5_opensPart 95 = .ok (.bipush 63, 2) := by decide +kernel
theorem dX5_opensPart_97 : decode cX5_opensPart 97 = .ok (.if_icmp .eq 7, 3) := by decide +kernel
theorem dX5_opensPart_100 : decode cX5_opensPart 100 = .ok (.iconst 1, 1) := by decide +kernel
theorem dX5_opensPart_101 : decode cX5_opensPart 101 = .ok (.goto 4, 3) := by decide +kernel
theorem dX5_opensPart_104 : decode cX5_opensPart 104 = .ok (.iconst 0, 1) := by decide +kernel
theorem dX5_opensPart_105 : decode cX5_opensPart 105 = .ok (.ireturn, 1) := by decide +kernel
theorem dX5_opensPart_106 : decode cX5_opensPart 106 = .ok (.aload_n 0, 1) := by decide +kernel
theorem dX5_opensPart_107 : decode cX5_opensPart 107 = .ok (.getfield 12, 3) := by decide +kernel
theorem dX5_opensPart_110 : decode cX5_opensPart 110 = .ok (.getfield 84, 3) := by decide +kernel
theorem dX5_opensPart_113 : decode cX5_opensPart 113 = .ok (.getfield 96, 3) := by decide +kernel
theorem dX5_opensPart_116 : decode cX5_opensPart 116 = .ok (.iconst 4, 1) := by decide +kernel
theorem dX5_opensPart_117 : decode cX5_opensPart 117 = .ok (.if_icmp .ge 7, 3) := by decide +kernel
theorem dX5_opensPart_120 : decode cX5_opensPart 120 = .ok (.iconst 1, 1) := by decide +kernel
theorem dX5_opensPart_121 : decode cX5_opensPart 121 = .ok (.goto 4, 3) := by decide +kernel
theorem dX5_opensPart_124 : decode cX5_opensPart 124 = .ok (.iconst 0, 1) := by decide +kernel
theorem dX5_opensPart_125 : decode cX5_opensPart 125 = .ok (.ireturn, 1) := by decide +kernel
theorem dX5_opensPart_126 : decode cX5_opensPart 126 = .ok (.iconst 0, 1) := by decide +kernel
theorem dX5_opensPart_127 : decode cX5_opensPart 127 = .ok (.ireturn, 1) := by decide +kernel
theorem dX5_signsOfPart_0 : decode cX5_signsOfPart 0 = .ok (.aload_n 0, 1) := by decide +kernel
theorem dX5_signsOfPart_1 : decode cX5_signsOfPart 1 = .ok (.getfield 29, 3) := by decide +kernel
theorem dX5_signsOfPart_4 : decode cX5_signsOfPart 4 = .ok (.lookupswitch 32 #[(66, 28), (76, 30)], 28) := by decide +kernel
theorem dX5_signsOfPart_32 : decode cX5_signsOfPart 32 = .ok (.iconst 3, 1) := by decide +kernel
theorem dX5_signsOfPart_33 : decode cX5_signsOfPart 33 = .ok (.ireturn, 1) := by decide +kernel
theorem dX5_signsOfPart_34 : decode cX5_signsOfPart 34 = .ok (.iconst 2, 1) := by decide +kernel
theorem dX5_signsOfPart_35 : decode cX5_signsOfPart 35 = .ok (.ireturn, 1) := by decide +kernel
theorem dX5_signsOfPart_36 : decode cX5_signsOfPart 36 = .ok (.iconst 4, 1) := by decide +kernel
theorem dX5_signsOfPart_37 : decode cX5_signsOfPart 37 = .ok (.ireturn, 1) := by decide +kernel
theorem dX5_allows_0 : decode cX5_allows 0 = .ok (.aload_n 0, 1) := by decide +kernel
theorem dX5_allows_1 : decode cX5_allows 1 = .ok (.getfield 29, 3) := by decide +kernel
theorem dX5_allows_4 : decode cX5_allows 4 = .ok (.lookupswitch 56 #[(66, 36), (72, 48), (76, 42)], 36) := by decide +kernel
theorem dX5_allows_40 : decode cX5_allows 40 = .ok (.aload_n 0, 1) := by decide +kernel
theorem dX5_allows_41 : decode cX5_allows 41 = .ok (.iload_n 1, 1) := by decide +kernel
theorem dX5_allows_42 : decode cX5_allows 42 = .ok (.invokevirtual 99, 3) := by decide +kernel
theorem dX5_allows_45 : decode cX5_allows 45 = .ok (.ireturn, 1) := by decide +kernel
theorem dX5_allows_46 : decode cX5_allows 46 = .ok (.aload_n 0, 1) := by decide +kernel
theorem dX5_allows_47 : decode cX5_allows 47 = .ok (.iload_n 1, 1) := by decide +kernel
theorem dX5_allows_48 : decode cX5_allows 48 = .ok (.invokevirtual 102, 3) := by decide +kernel
theorem dX5_allows_51 : decode cX5_allows 51 = .ok (.ireturn, 1) := by decide +kernel
theorem dX5_allows_52 : decode cX5_allows 52 = .ok (.aload_n 0, 1) := by decide +kernel
theorem dX5_allows_53 : decode cX5_allows 53 = .ok (.iload_n 1, 1) := by decide +kernel
theorem dX5_allows_54 : decode cX5_allows 54 = .ok (.bipush 6, 2) := by decide +kernel
theorem dX5_allows_56 : decode cX5_allows 56 = .ok (.invokevirtual 105, 3) := by decide +kernel
theorem dX5_allows_59 : decode cX5_allows 59 = .ok (.ireturn, 1) := by decide +kernel
theorem dX5_allows_60 : decode cX5_allows 60 = .ok (.aload_n 0, 1) := by decide +kernel
theorem dX5_allows_61 : decode cX5_allows 61 = .ok (.iload_n 1, 1) := by decide +kernel
theorem dX5_allows_62 : decode cX5_allows 62 = .ok (.bipush 16, 2) := by decide +kernel
theorem dX5_allows_64 : decode cX5_allows 64 = .ok (.invokevirtual 105, 3) := by decide +kernel
theorem dX5_allows_67 : decode cX5_allows 67 = .ok (.ireturn, 1) := by decide +kernel
theorem dX5_allowsForBody_0 : decode cX5_allowsForBody 0 = .ok (.aload_n 0, 1) := by decide +kernel
theorem dX5_allowsForBody_1 : decode cX5_allowsForBody 1 = .ok (.getfield 25, 3) := by decide +kernel
theorem dX5_allowsForBody_4 : decode cX5_allowsForBody 4 = .ok (.ifCond .ne 10, 3) := by decide +kernel
theorem dX5_allowsForBody_7 : decode cX5_allowsForBody 7 = .ok (.iload_n 1, 1) := by decide +kernel
theorem dX5_allowsForBody_8 : decode cX5_allowsForBody 8 = .ok (.bipush 6, 2) := by decide +kernel
theorem dX5_allowsForBody_10 : decode cX5_allowsForBody 10 = .ok (.invokestatic 63, 3) := by decide +kernel
theorem dX5_allowsForBody_13 : decode cX5_allowsForBody 13 = .ok (.ireturn, 1) := by decide +kernel
theorem dX5_allowsForBody_14 : decode cX5_allowsForBody 14 = .ok (.aload_n 0, 1) := by decide +kernel
theorem dX5_allowsForBody_15 : decode cX5_allowsForBody 15 = .ok (.getfield 25, 3) := by decide +kernel
theorem dX5_allowsForBody_18 : decode cX5_allowsForBody 18 = .ok (.iconst 1, 1) := by decide +kernel
theorem dX5_allowsForBody_19 : decode cX5_allowsForBody 19 = .ok (.if_icmp .ne 36, 3) := by decide +kernel
theorem dX5_allowsForBody_22 : decode cX5_allowsForBody 22 = .ok (.iload_n 1, 1) := by decide +kernel
theorem dX5_allowsForBody_23 : decode cX5_allowsForBody 23 = .ok (.bipush 10, 2) := by decide +kernel
theorem dX5_allowsForBody_25 : decode cX5_allowsForBody 25 = .ok (.invokestatic 63, 3) := by decide +kernel
theorem dX5_allowsForBody_28 : decode cX5_allowsForBody 28 = .ok (.ifCond .eq 23, 3) := by decide +kernel
theorem dX5_allowsForBody_31 : decode cX5_allowsForBody 31 = .ok (.aload_n 0, 1) := by decide +kernel
theorem dX5_allowsForBody_32 : decode cX5_allowsForBody 32 = .ok (.getfield 12, 3) := by decide +kernel
theorem dX5_allowsForBody_35 : decode cX5_allowsForBody 35 = .ok (.getfield 77, 3) := by decide +kernel
theorem dX5_allowsForBody_38 : decode cX5_allowsForBody 38 = .ok (.iload_n 1, 1) := by decide +kernel
theorem dX5_allowsForBody_39 : decode cX5_allowsForBody 39 = .ok (.invokevirtual 108, 3) := by decide +kernel
theorem dX5_allowsForBody_42 : decode cX5_allowsForBody 42 = .ok (.bipush 6, 2) := by decide +kernel
theorem dX5_allowsForBody_44 : decode cX5_allowsForBody 44 = .ok (.if_icmp .ge 7, 3) := by decide +kernel
theorem dX5_allowsForBody_47 : decode cX5_allowsForBody 47 = .ok (.iconst 1, 1) := by decide +kernel
theorem dX5_allowsForBody_48 : decode cX5_allowsForBody 48 = .ok (.goto 41, 3) := by decide +kernel
theorem dX5_allowsForBody_51 : decode cX5_allowsForBody 51 = .ok (.iconst 0, 1) := by decide +kernel
theorem dX5_allowsForBody_52 : decode cX5_allowsForBody 52 = .ok (.goto 37, 3) := by decide +kernel
theorem dX5_allowsForBody_55 : decode cX5_allowsForBody 55 = .ok (.iload_n 1, 1) := by decide +kernel
theorem dX5_allowsForBody_56 : decode cX5_allowsForBody 56 = .ok (.bipush 6, 2) := by decide +kernel
theorem dX5_allowsForBody_58 : decode cX5_allowsForBody 58 = .ok (.invokestatic 63, 3) := by decide +kernel
theorem dX5_allowsForBody_61 : decode cX5_allowsForBody 61 = .ok (.ifCond .eq 27, 3) := by decide +kernel
theorem dX5_allowsForBody_64 : decode cX5_allowsForBody 64 = .ok (.aload_n 0, 1) := by decide +kernel
theorem dX5_allowsForBody_65 : decode cX5_allowsForBody 65 = .ok (.getfield 12, 3) := by decide +kernel
theorem dX5_allowsForBody_68 : decode cX5_allowsForBody 68 = .ok (.getfield 77, 3) := by decide +kernel
theorem dX5_allowsForBody_71 : decode cX5_allowsForBody 71 = .ok (.aload_n 0, 1) := by decide +kernel
theorem dX5_allowsForBody_72 : decode cX5_allowsForBody 72 = .ok (.getfield 18, 3) := by decide +kernel
theorem dX5_allowsForBody_75 : decode cX5_allowsForBody 75 = .ok (.iconst 1, 1) := by decide +kernel
theorem dX5_allowsForBody_76 : decode cX5_allowsForBody 76 = .ok (.iaload, 1) := by decide +kernel
theorem dX5_allowsForBody_77 : decode cX5_allowsForBody 77 = .ok (.iload_n 1, 1) := by decide +kernel
theorem dX5_allowsForBody_78 : decode cX5_allowsForBody 78 = .ok (.invokevirtual 111, 3) := by decide +kernel
theorem dX5_allowsForBody_81 : decode cX5_allowsForBody 81 = .ok (.ifCond .ne 7, 3) := by decide +kernel
theorem dX5_allowsForBody_84 : decode cX5_allowsForBody 84 = .ok (.iconst 1, 1) := by decide +kernel
theorem dX5_allowsForBody_85 : decode cX5_allowsForBody 85 = .ok (.goto 4, 3) := by decide +kernel
theorem dX5_allowsForBody_88 : decode cX5_allowsForBody 88 = .ok (.iconst 0, 1) := by decide +kernel
theorem dX5_allowsForBody_89 : decode cX5_allowsForBody 89 = .ok (.ireturn, 1) := by decide +kernel
theorem dX5_allowsForCliff_0 : decode cX5_allowsForCliff 0 = .ok (.aload_n 0, 1) := by decide +kernel
theorem dX5_allowsForCliff_1 : decode cX5_allowsForCliff 1 = .ok (.getfield 25, 3) := by decide +kernel
theorem dX5_allowsForCliff_4 : decode cX5_allowsForCliff 4 = .ok (.ifCond .ne 34, 3) := by decide +kernel
theorem dX5_allowsForCliff_7 : decode cX5_allowsForCliff 7 = .ok (.iload_n 1, 1) := by decide +kernel
theorem dX5_allowsForCliff_8 : decode cX5_allowsForCliff 8 = .ok (.bipush 6, 2) := by decide +kernel
theorem dX5_allowsForCliff_10 : decode cX5_allowsForCliff 10 = .ok (.invokestatic 63, 3) := by decide +kernel
theorem dX5_allowsForCliff_13 : decode cX5_allowsForCliff 13 = .ok (.ifCond .eq 21, 3) := by decide +kernel
theorem dX5_allowsForCliff_16 : decode cX5_allowsForCliff 16 = .ok (.aload_n 0, 1) := by decide +kernel
theorem dX5_allowsForCliff_17 : decode cX5_allowsForCliff 17 = .ok (.getfield 12, 3) := by decide +kernel
theorem dX5_allowsForCliff_20 : decode cX5_allowsForCliff 20 = .ok (.getfield 84, 3) := by decide +kernel
theorem dX5_allowsForCliff_23 : decode cX5_allowsForCliff 23 = .ok (.iload_n 1, 1) := by decide +kernel
theorem dX5_allowsForCliff_24 : decode cX5_allowsForCliff 24 = .ok (.invokevirtual 114, 3) := by decide +kernel
theorem dX5_allowsForCliff_27 : decode cX5_allowsForCliff 27 = .ok (.ifCond .ne 7, 3) := by decide +kernel
theorem dX5_allowsForCliff_30 : decode cX5_allowsForCliff 30 = .ok (.iconst 1, 1) := by decide +kernel
theorem dX5_allowsForCliff_31 : decode cX5_allowsForCliff 31 = .ok (.goto 11, 3) := by decide +kernel
theorem dX5_allowsForCliff_34 : decode cX5_allowsForCliff 34 = .ok (.iconst 0, 1) := by decide +kernel
theorem dX5_allowsForCliff_35 : decode cX5_allowsForCliff 35 = .ok (.goto 7, 3) := by decide +kernel
theorem dX5_allowsForCliff_38 : decode cX5_allowsForCliff 38 = .ok (.iload_n 1, 1) := by decide +kernel
theorem dX5_allowsForCliff_39 : decode cX5_allowsForCliff 39 = .ok (.invokestatic 117, 3) := by decide +kernel
theorem dX5_allowsForCliff_42 : decode cX5_allowsForCliff 42 = .ok (.ireturn, 1) := by decide +kernel
theorem dX5_allowsInRange_0 : decode cX5_allowsInRange 0 = .ok (.aload_n 0, 1) := by decide +kernel
theorem dX5_allowsInRange_1 : decode cX5_allowsInRange 1 = .ok (.getfield 25, 3) := by decide +kernel
theorem dX5_allowsInRange_4 : decode cX5_allowsInRange 4 = .ok (.iconst 1, 1) := by decide +kernel
theorem dX5_allowsInRange_5 : decode cX5_allowsInRange 5 = .ok (.if_icmp .ne 12, 3) := by decide +kernel
theorem dX5_allowsInRange_8 : decode cX5_allowsInRange 8 = .ok (.aload_n 0, 1) := by decide +kernel
theorem dX5_allowsInRange_9 : decode cX5_allowsInRange 9 = .ok (.getfield 18, 3) := by decide +kernel
theorem dX5_allowsInRange_12 : decode cX5_allowsInRange 12 = .ok (.iconst 0, 1) := by decide +kernel
theorem dX5_allowsInRange_13 : decode cX5_allowsInRange 13 = .ok (.iaload, 1) := by decide +kernel
theorem dX5_allowsInRange_14 : decode cX5_allowsInRange 14 = .ok (.goto 21, 3) := by decide +kernel
theorem dX5_allowsInRange_17 : decode cX5_allowsInRange 17 = .ok (.aload_n 0, 1) := by decide +kernel
theorem dX5_allowsInRange_18 : decode cX5_allowsInRange 18 = .ok (.getfield 25, 3) := by decide +kernel
theorem dX5_allowsInRange_21 : decode cX5_allowsInRange 21 = .ok (.iconst 3, 1) := by decide +kernel
theorem dX5_allowsInRange_22 : decode cX5_allowsInRange 22 = .ok (.if_icmp .ne 12, 3) := by decide +kernel
theorem dX5_allowsInRange_25 : decode cX5_allowsInRange 25 = .ok (.aload_n 0, 1) := by decide +kernel
theorem dX5_allowsInRange_26 : decode cX5_allowsInRange 26 = .ok (.getfield 18, 3) := by decide +kernel
theorem dX5_allowsInRange_29 : decode cX5_allowsInRange 29 = .ok (.iconst 2, 1) := by decide +kernel
theorem dX5_allowsInRange_30 : decode cX5_allowsInRange 30 = .ok (.iaload, 1) := by decide +kernel
theorem dX5_allowsInRange_31 : decode cX5_allowsInRange 31 = .ok (.goto 4, 3) := by decide +kernel
theorem dX5_allowsInRange_34 : decode cX5_allowsInRange 34 = .ok (.iconst 0, 1) := by decide +kernel
theorem dX5_allowsInRange_35 : decode cX5_allowsInRange 35 = .ok (.istore_n 3, 1) := by decide +kernel
theorem dX5_allowsInRange_36 : decode cX5_allowsInRange 36 = .ok (.iload_n 1, 1) := by decide +kernel
theorem dX5_allowsInRange_37 : decode cX5_allowsInRange 37 = .ok (.iload_n 3, 1) := by decide +kernel
theorem dX5_allowsInRange_38 : decode cX5_allowsInRange 38 = .ok (.if_icmp .lt 28, 3) := by decide +kernel
theorem dX5_allowsInRange_41 : decode cX5_allowsInRange 41 = .ok (.iload_n 1, 1) := by decide +kernel
theorem dX5_allowsInRange_42 : decode cX5_allowsInRange 42 = .ok (.aload_n 0, 1) := by decide +kernel
theorem dX5_allowsInRange_43 : decode cX5_allowsInRange 43 = .ok (.getfield 25, 3) := by decide +kernel
theorem dX5_allowsInRange_46 : decode cX5_allowsInRange 46 = .ok (.iconst 2, 1) := by decide +kernel
theorem dX5_allowsInRange_47 : decode cX5_allowsInRange 47 = .ok (.if_icmp .ge 8, 3) := by decide +kernel
theorem dX5_allowsInRange_50 : decode cX5_allowsInRange 50 = .ok (.bipush 10, 2) := by decide +kernel
theorem dX5_allowsInRange_52 : decode cX5_allowsInRange 52 = .ok (.goto 4, 3) := by decide +kernel
theorem dX5_allowsInRange_55 : decode cX5_allowsInRange 55 = .ok (.iload_n 2, 1) := by decide +kernel
theorem dX5_allowsInRange_56 : decode cX5_allowsInRange 56 = .ok (.invokestatic 63, 3) := by decide +kernel
theorem dX5_allowsInRange_59 : decode cX5_allowsInRange 59 = .ok (.ifCond .eq 7, 3) := by decide +kernel
theorem dX5_allowsInRange_62 : decode cX5_allowsInRange 62 = .ok (.iconst 1, 1) := by decide +kernel
theorem dX5_allowsInRange_63 : decode cX5_allowsInRange 63 = .ok (.goto 4, 3) := by decide +kernel
theorem dX5_allowsInRange_66 : decode cX5_allowsInRange 66 = .ok (.iconst 0, 1) := by decide +kernel
theorem dX5_allowsInRange_67 : decode cX5_allowsInRange 67 = .ok (.ireturn, 1) := by decide +kernel
theorem dX5_endPart_0 : decode cX5_endPart 0 = .ok (.aload_n 0, 1) := by decide +kernel
theorem dX5_endPart_1 : decode cX5_endPart 1 = .ok (.getfield 29, 3) := by decide +kernel
theorem dX5_endPart_4 : decode cX5_endPart 4 = .ok (.lookupswitch 119 #[(66, 36), (72, 77), (76, 94)], 36) := by decide +kernel
theorem dX5_endPart_40 : decode cX5_endPart 40 = .ok (.aload_n 0, 1) := by decide +kernel
theorem dX5_endPart_41 : decode cX5_endPart 41 = .ok (.getfield 12, 3) := by decide +kernel
theorem dX5_endPart_44 : decode cX5_endPart 44 = .ok (.getfield 77, 3) := by decide +kernel
theorem dX5_endPart_47 : decode cX5_endPart 47 = .ok (.aload_n 0, 1) := by decide +kernel
theorem dX5_endPart_48 : decode cX5_endPart 48 = .ok (.getfield 12, 3) := by decide +kernel
theorem dX5_endPart_51 : decode cX5_endPart 51 = .ok (.getfield 77, 3) := by decide +kernel
theorem dX5_endPart_54 : decode cX5_endPart 54 = .ok (.getfield 81, 3) := by decide +kernel
theorem dX5_endPart_57 : decode cX5_endPart 57 = .ok (.aload_n 0, 1) := by decide +kernel
theorem dX5_endPart_58 : decode cX5_endPart 58 = .ok (.getfield 18, 3) := by decide +kernel
theorem dX5_endPart_61 : decode cX5_endPart 61 = .ok (.iconst 0, 1) := by decide +kernel
theorem dX5_endPart_62 : decode cX5_endPart 62 = .ok (.iaload, 1) := by decide +kernel
theorem dX5_endPart_63 : decode cX5_endPart 63 = .ok (.aload_n 0, 1) := by decide +kernel
theorem dX5_endPart_64 : decode cX5_endPart 64 = .ok (.getfield 18, 3) := by decide +kernel
theorem dX5_endPart_67 : decode cX5_endPart 67 = .ok (.iconst 1, 1) := by decide +kernel
theorem dX5_endPart_68 : decode cX5_endPart 68 = .ok (.iaload, 1) := by decide +kernel
theorem dX5_endPart_69 : decode cX5_endPart 69 = .ok (.aload_n 0, 1) := by decide +kernel
theorem dX5_endPart_70 : decode cX5_endPart 70 = .ok (.getfield 18, 3) := by decide +kernel
theorem dX5_endPart_73 : decode cX5_endPart 73 = .ok (.iconst 2, 1) := by decide +kernel
theorem dX5_endPart_74 : decode cX5_endPart 74 = .ok (.iaload, 1) := by decide +kernel
theorem dX5_endPart_75 : decode cX5_endPart 75 = .ok (.invokevirtual 120, 3) := by decide +kernel
theorem dX5_endPart_78 : decode cX5_endPart 78 = .ok (.goto 59, 3) := by decide +kernel
theorem dX5_endPart_81 : decode cX5_endPart 81 = .ok (.aload_n 0, 1) := by decide +kernel
theorem dX5_endPart_82 : decode cX5_endPart 82 = .ok (.getfield 12, 3) := by decide +kernel
theorem dX5_endPart_85 : decode cX5_endPart 85 = .ok (.getfield 84, 3) := by decide +kernel
theorem dX5_endPart_88 : decode cX5_endPart 88 = .ok (.aload_n 0, 1) := by decide +kernel
theorem dX5_endPart_89 : decode cX5_endPart 89 = .ok (.getfield 18, 3) := by decide +kernel
theorem dX5_endPart_92 : decode cX5_endPart 92 = .ok (.invokevirtual 124, 3) := by decide +kernel
theorem dX5_endPart_95 : decode cX5_endPart 95 = .ok (.goto 42, 3) := by decide +kernel
theorem dX5_endPart_98 : decode cX5_endPart 98 = .ok (.aload_n 0, 1) := by decide +kernel
theorem dX5_endPart_99 : decode cX5_endPart 99 = .ok (.getfield 12, 3) := by decide +kernel
theorem dX5_endPart_102 : decode cX5_endPart 102 = .ok (.getfield 84, 3) := by decide +kernel
theorem dX5_endPart_105 : decode cX5_endPart 105 = .ok (.aload_n 0, 1) := by decide +kernel
theorem dX5_endPart_106 : decode cX5_endPart 106 = .ok (.getfield 18, 3) := by decide +kernel
theorem dX5_endPart_109 : decode cX5_endPart 109 = .ok (.iconst 0, 1) := by decide +kernel
theorem dX5_endPart_110 : decode cX5_endPart 110 = .ok (.iaload, 1) := by decide +kernel
theorem dX5_endPart_111 : decode cX5_endPart 111 = .ok (.aload_n 0, 1) := by decide +kernel
theorem dX5_endPart_112 : decode cX5_endPart 112 = .ok (.getfield 18, 3) := by decide +kernel
theorem dX5_endPart_115 : decode cX5_endPart 115 = .ok (.iconst 1, 1) := by decide +kernel
theorem dX5_endPart_116 : decode cX5_endPart 116 = .ok (.iaload, 1) := by decide +kernel
theorem dX5_endPart_117 : decode cX5_endPart 117 = .ok (.invokevirtual 128, 3) := by decide +kernel
theorem dX5_endPart_120 : decode cX5_endPart 120 = .ok (.goto 17, 3) := by decide +kernel
theorem dX5_endPart_123 : decode cX5_endPart 123 = .ok (.aload_n 0, 1) := by decide +kernel
theorem dX5_endPart_124 : decode cX5_endPart 124 = .ok (.getfield 12, 3) := by decide +kernel
theorem dX5_endPart_127 : decode cX5_endPart 127 = .ok (.getfield 84, 3) := by decide +kernel
theorem dX5_endPart_130 : decode cX5_endPart 130 = .ok (.aload_n 0, 1) := by decide +kernel
theorem dX5_endPart_131 : decode cX5_endPart 131 = .ok (.getfield 18, 3) := by decide +kernel
theorem dX5_endPart_134 : decode cX5_endPart 134 = .ok (.invokevirtual 132, 3) := by decide +kernel
theorem dX5_endPart_137 : decode cX5_endPart 137 = .ok (.aload_n 0, 1) := by decide +kernel
theorem dX5_endPart_138 : decode cX5_endPart 138 = .ok (.iconst 0, 1) := by decide +kernel
theorem dX5_endPart_139 : decode cX5_endPart 139 = .ok (.putfield 29, 3) := by decide +kernel
theorem dX5_endPart_142 : decode cX5_endPart 142 = .ok (.aload_n 0, 1) := by decide +kernel
theorem dX5_endPart_143 : decode cX5_endPart 143 = .ok (.iconst 0, 1) := by decide +kernel
theorem dX5_endPart_144 : decode cX5_endPart 144 = .ok (.putfield 25, 3) := by decide +kernel
theorem dX5_endPart_147 : decode cX5_endPart 147 = .ok (.return_, 1) := by decide +kernel
theorem dX5_valueOf_0 : decode cX5_valueOf 0 = .ok (.iload_n 0, 1) := by decide +kernel
theorem dX5_valueOf_1 : decode cX5_valueOf 1 = .ok (.bipush 48, 2) := by decide +kernel
theorem dX5_valueOf_3 : decode cX5_valueOf 3 = .ok (.if_icmp .lt 14, 3) := by decide +kernel
theorem dX5_valueOf_6 : decode cX5_valueOf 6 = .ok (.iload_n 0, 1) := by decide +kernel
theorem dX5_valueOf_7 : decode cX5_valueOf 7 = .ok (.bipush 57, 2) := by decide +kernel
theorem dX5_valueOf_9 : decode cX5_valueOf 9 = .ok (.if_icmp .gt 8, 3) := by decide +kernel
theorem dX5_valueOf_12 : decode cX5_valueOf 12 = .ok (.iload_n 0, 1) := by decide +kernel
theorem dX5_valueOf_13 : decode cX5_valueOf 13 = .ok (.bipush 48, 2) := by decide +kernel
theorem dX5_valueOf_15 : decode cX5_valueOf 15 = .ok (.isub, 1) := by decide +kernel
theorem dX5_valueOf_16 : decode cX5_valueOf 16 = .ok (.ireturn, 1) := by decide +kernel
theorem dX5_valueOf_17 : decode cX5_valueOf 17 = .ok (.iload_n 0, 1) := by decide +kernel
theorem dX5_valueOf_18 : decode cX5_valueOf 18 = .ok (.bipush 97, 2) := by decide +kernel
theorem dX5_valueOf_20 : decode cX5_valueOf 20 = .ok (.if_icmp .lt 19, 3) := by decide +kernel
theorem dX5_valueOf_23 : decode cX5_valueOf 23 = .ok (.iload_n 0, 1) := by decide +kernel
theorem dX5_valueOf_24 : decode cX5_valueOf 24 = .ok (.bipush 102, 2) := by decide +kernel
theorem dX5_valueOf_26 : decode cX5_valueOf 26 = .ok (.if_icmp .gt 13, 3) := by decide +kernel
theorem dX5_valueOf_29 : decode cX5_valueOf 29 = .ok (.iload_n 0, 1) := by decide +kernel
theorem dX5_valueOf_30 : decode cX5_valueOf 30 = .ok (.bipush 97, 2) := by decide +kernel
theorem dX5_valueOf_32 : decode cX5_valueOf 32 = .ok (.isub, 1) := by decide +kernel
theorem dX5_valueOf_33 : decode cX5_valueOf 33 = .ok (.bipush 10, 2) := by decide +kernel
theorem dX5_valueOf_35 : decode cX5_valueOf 35 = .ok (.iadd, 1) := by decide +kernel
theorem dX5_valueOf_36 : decode cX5_valueOf 36 = .ok (.goto 5, 3) := by decide +kernel
theorem dX5_valueOf_39 : decode cX5_valueOf 39 = .ok (.bipush (-9), 2) := by decide +kernel
theorem dX5_valueOf_41 : decode cX5_valueOf 41 = .ok (.ireturn, 1) := by decide +kernel
theorem dX6_init_0 : decode cX6_init 0 = .ok (.aload_n 0, 1) := by decide +kernel
theorem dX6_init_1 : decode cX6_init 1 = .ok (.invokespecial 3, 3) := by decide +kernel
theorem dX6_init_4 : decode cX6_init 4 = .ok (.aload_n 0, 1) := by decide +kernel
theorem dX6_init_5 : decode cX6_init 5 = .ok (.bipush 30, 2) := by decide +kernel
theorem dX6_init_7 : decode cX6_init 7 = .ok (.newarray .int, 2) := by decide +kernel
theorem dX6_init_9 : decode cX6_init 9 = .ok (.putfield 11, 3) := by decide +kernel
theorem dX6_init_12 : decode cX6_init 12 = .ok (.aload_n 0, 1) := by decide +kernel
theorem dX6_init_13 : decode cX6_init 13 = .ok (.bipush 30, 2) := by decide +kernel
theorem dX6_init_15 : decode cX6_init 15 = .ok (.newarray .int, 2) := by decide +kernel
theorem dX6_init_17 : decode cX6_init 17 = .ok (.putfield 15, 3) := by decide +kernel
theorem dX6_init_20 : decode cX6_init 20 = .ok (.aload_n 0, 1) := by decide +kernel
theorem dX6_init_21 : decode cX6_init 21 = .ok (.bipush 30, 2) := by decide +kernel
theorem dX6_init_23 : decode cX6_init 23 = .ok (.newarray .int, 2) := by decide +kernel
theorem dX6_init_25 : decode cX6_init 25 = .ok (.putfield 18, 3) := by decide +kernel
theorem dX6_init_28 : decode cX6_init 28 = .ok (.return_, 1) := by decide +kernel
theorem dX6_look_0 : decode cX6_look 0 = .ok (.aload_n 0, 1) := by decide +kernel
theorem dX6_look_1 : decode cX6_look 1 = .ok (.iconst 0, 1) := by decide +kernel
theorem dX6_look_2 : decode cX6_look 2 = .ok (.putfield 21, 3) := by decide +kernel
theorem dX6_look_5 : decode cX6_look 5 = .ok (.iconst 0, 1) := by decide +kernel
theorem dX6_look_6 : decode cX6_look 6 = .ok (.istore 4, 2) := by decide +kernel
theorem dX6_look_8 : decode cX6_look 8 = .ok (.iload 4, 2) := by decide +kernel
theorem dX6_look_10 : decode cX6_look 10 = .ok (.bipush 6, 2) := by decide +kernel
theorem dX6_look_12 : decode cX6_look 12 = .ok (.if_icmp .ge 33, 3) := by decide +kernel
theorem dX6_look_15 : decode cX6_look 15 = .ok (.aload_n 0, 1) := by decide +kernel
theorem dX6_look_16 : decode cX6_look 16 = .ok (.iload 4, 2) := by decide +kernel
theorem dX6_look_18 : decode cX6_look 18 = .ok (.aload_n 1, 1) := by decide +kernel
theorem dX6_look_19 : decode cX6_look 19 = .ok (.getfield 25, 3) := by decide +kernel
theorem dX6_look_22 : decode cX6_look 22 = .ok (.iload_n 2, 1) := by decide +kernel
theorem dX6_look_23 : decode cX6_look 23 = .ok (.iload 4, 2) := by decide +kernel
theorem dX6_look_25 : decode cX6_look 25 = .ok (.invokevirtual 31, 3) := by decide +kernel
theorem dX6_look_28 : decode cX6_look 28 = .ok (.aload_n 1, 1) := by decide +kernel
theorem dX6_look_29 : decode cX6_look 29 = .ok (.iload_n 3, 1) := by decide +kernel
theorem dX6_look_30 : decode cX6_look 30 = .ok (.iload 4, 2) := by decide +kernel
theorem dX6_look_32 : decode cX6_look 32 = .ok (.invokevirtual 37, 3) := by decide +kernel
theorem dX6_look_35 : decode cX6_look 35 = .ok (.iand, 1) := by decide +kernel
theorem dX6_look_36 : decode cX6_look 36 = .ok (.invokevirtual 40, 3) := by decide +kernel
theorem dX6_look_39 : decode cX6_look 39 = .ok (.iinc 4 1, 3) := by decide +kernel
theorem dX6_look_42 : decode cX6_look 42 = .ok (.goto (-34), 3) := by decide +kernel
theorem dX6_look_45 : decode cX6_look 45 = .ok (.return_, 1) := by decide +kernel
theorem dX6_addRunsOf_0 : decode cX6_addRunsOf 0 = .ok (.iconst 0, 1) := by decide +kernel
theorem dX6_addRunsOf_1 : decode cX6_addRunsOf 1 = .ok (.istore_n 3, 1) := by decide +kernel
theorem dX6_addRunsOf_2 : decode cX6_addRunsOf 2 = .ok (.iconst 0, 1) := by decide +kernel
theorem dX6_addRunsOf_3 : decode cX6_addRunsOf 3 = .ok (.istore 4, 2) := by decide +kernel
theorem dX6_addRunsOf_5 : decode cX6_addRunsOf 5 = .ok (.iload 4, 2) := by decide +kernel
theorem dX6_addRunsOf_7 : decode cX6_addRunsOf 7 = .ok (.bipush 10, 2) := by decide +kernel
theorem dX6_addRunsOf_9 : decode cX6_addRunsOf 9 = .ok (.if_icmp .gt 40, 3) := by decide +kernel
theorem dX6_addRunsOf_12 : decode cX6_addRunsOf 12 = .ok (.iload_n 2, 1) := by decide +kernel
theorem dX6_addRunsOf_13 : decode cX6_addRunsOf 13 = .ok (.iload 4, 2) := by decide +kernel
theorem dX6_addRunsOf_15 : decode cX6_addRunsOf 15 = .ok (.ishr, 1) := by decide +kernel
theorem dX6_addRunsOf_16 : decode cX6_addRunsOf 16 = .ok (.iconst 1, 1) := by decide +kernel
theorem dX6_addRunsOf_17 : decode cX6_addRunsOf 17 = .ok (.iand, 1) := by decide +kernel
theorem dX6_addRunsOf_18 : decode cX6_addRunsOf 18 = .ok (.ifCond .eq 9, 3) := by decide +kernel
theorem dX6_addRunsOf_21 : decode cX6_addRunsOf 21 = .ok (.iinc 3 1, 3) := by decide +kernel
theorem dX6_addRunsOf_24 : decode cX6_addRunsOf 24 = .ok (.goto 19, 3) := by decide +kernel
theorem dX6_addRunsOf_27 : decode cX6_addRunsOf 27 = .ok (.iload_n 3, 1) := by decide +kernel
theorem dX6_addRunsOf_28 : decode cX6_addRunsOf 28 = .ok (.ifCond .le 15, 3) := by decide +kernel
theorem dX6_addRunsOf_31 : decode cX6_addRunsOf 31 = .ok (.aload_n 0, 1) := by decide +kernel
theorem dX6_addRunsOf_32 : decode cX6_addRunsOf 32 = .ok (.iload_n 1, 1) := by decide +kernel
theorem dX6_addRunsOf_33 : decode cX6_addRunsOf 33 = .ok (.iload 4, 2) := by decide +kernel
theorem dX6_addRunsOf_35 : decode cX6_addRunsOf 35 = .ok (.iload_n 3, 1) := by decide +kernel
theorem dX6_addRunsOf_36 : decode cX6_addRunsOf 36 = .ok (.isub, 1) := by decide +kernel
theorem dX6_addRunsOf_37 : decode cX6_addRunsOf 37 = .ok (.iload_n 3, 1) := by decide +kernel
theorem dX6_addRunsOf_38 : decode cX6_addRunsOf 38 = .ok (.invokevirtual 44, 3) := by decide +kernel
theorem dX6_addRunsOf_41 : decode cX6_addRunsOf 41 = .ok (.iconst 0, 1) := by decide +kernel
theorem dX6_addRunsOf_42 : decode cX6_addRunsOf 42 = .ok (.istore_n 3, 1) := by decide +kernel
theorem dX6_addRunsOf_43 : decode cX6_addRunsOf 43 = .ok (.iinc 4 1, 3) := by decide +kernel
theorem dX6_addRunsOf_46 : decode cX6_addRunsOf 46 = .ok (.goto (-41), 3) := by decide +kernel
theorem dX6_addRunsOf_49 : decode cX6_addRunsOf 49 = .ok (.return_, 1) := by decide +kernel
theorem dX6_add_0 : decode cX6_add 0 = .ok (.aload_n 0, 1) := by decide +kernel
theorem dX6_add_1 : decode cX6_add 1 = .ok (.getfield 21, 3) := by decide +kernel
theorem dX6_add_4 : decode cX6_add 4 = .ok (.bipush 30, 2) := by decide +kernel
theorem dX6_add_6 : decode cX6_add 6 = .ok (.if_icmp .ge 43, 3) := by decide +kernel
theorem dX6_add_9 : decode cX6_add 9 = .ok (.aload_n 0, 1) := by decide +kernel
theorem dX6_add_10 : decode cX6_add 10 = .ok (.getfield 11, 3) := by decide +kernel
theorem dX6_add_13 : decode cX6_add 13 = .ok (.aload_n 0, 1) := by decide +kernel
theorem dX6_add_14 : decode cX6_add 14 = .ok (.getfield 21, 3) := by decide +kernel
theorem dX6_add_17 : decode cX6_add 17 = .ok (.iload_n 1, 1) := by decide +kernel
theorem dX6_add_18 : decode cX6_add 18 = .ok (.iastore, 1) := by decide +kernel
theorem dX6_add_19 : decode cX6_add 19 = .ok (.aload_n 0, 1) := by decide +kernel
theorem dX6_add_20 : decode cX6_add 20 = .ok (.getfield 15, 3) := by decide +kernel
theorem dX6_add_23 : decode cX6_add 23 = .ok (.aload_n 0, 1) := by decide +kernel
theorem dX6_add_24 : decode cX6_add 24 = .ok (.getfield 21, 3) := by decide +kernel
theorem dX6_add_27 : decode cX6_add 27 = .ok (.iload_n 2, 1) := by decide +kernel
theorem dX6_add_28 : decode cX6_add 28 = .ok (.iastore, 1) := by decide +kernel
theorem dX6_add_29 : decode cX6_add 29 = .ok (.aload_n 0, 1) := by decide +kernel
theorem dX6_add_30 : decode cX6_add 30 = .ok (.getfield 18, 3) := by decide +kernel
theorem dX6_add_33 : decode cX6_add 33 = .ok (.aload_n 0, 1) := by decide +kernel
theorem dX6_add_34 : decode cX6_add 34 = .ok (.getfield 21, 3) := by decide +kernel
theorem dX6_add_37 : decode cX6_add 37 = .ok (.iload_n 3, 1) := by decide +kernel
theorem dX6_add_38 : decode cX6_add 38 = .ok (.iastore, 1) := by decide +kernel
theorem dX6_add_39 : decode cX6_add 39 = .ok (.aload_n 0, 1) := by decide +kernel
theorem dX6_add_40 : decode cX6_add 40 = .ok (.dup, 1) := by decide +kernel
theorem dX6_add_41 : decode cX6_add 41 = .ok (.getfield 21, 3) := by decide +kernel
theorem dX6_add_44 : decode cX6_add 44 = .ok (.iconst 1, 1) := by decide +kernel
theorem dX6_add_45 : decode cX6_add 45 = .ok (.iadd, 1) := by decide +kernel
theorem dX6_add_46 : decode cX6_add 46 = .ok (.putfield 21, 3) := by decide +kernel
theorem dX6_add_49 : decode cX6_add 49 = .ok (.return_, 1) := by decide +kernel
theorem dX6_headsByRule_0 : decode cX6_headsByRule 0 = .ok (.iconst 0, 1) := by decide +kernel
theorem dX6_headsByRule_1 : decode cX6_headsByRule 1 = .ok (.istore_n 2, 1) := by decide +kernel
theorem dX6_headsByRule_2 : decode cX6_headsByRule 2 = .ok (.iconst 0, 1) := by decide +kernel
theorem dX6_headsByRule_3 : decode cX6_headsByRule 3 = .ok (.istore_n 3, 1) := by decide +kernel
theorem dX6_headsByRule_4 : decode cX6_headsByRule 4 = .ok (.iload_n 3, 1) := by decide +kernel
theorem dX6_headsByRule_5 : decode cX6_headsByRule 5 = .ok (.aload_n 0, 1) := by decide +kernel
theorem dX6_headsByRule_6 : decode cX6_headsByRule 6 = .ok (.getfield 21, 3) := by decide +kernel
theorem dX6_headsByRule_9 : decode cX6_headsByRule 9 = .ok (.if_icmp .ge 22, 3) := by decide +kernel
theorem dX6_headsByRule_12 : decode cX6_headsByRule 12 = .ok (.iload_n 2, 1) := by decide +kernel
theorem dX6_headsByRule_13 : decode cX6_headsByRule 13 = .ok (.aload_n 0, 1) := by decide +kernel
theorem dX6_headsByRule_14 : decode cX6_headsByRule 14 = .ok (.getfield 18, 3) := by decide +kernel
theorem dX6_headsByRule_17 : decode cX6_headsByRule 17 = .ok (.iload_n 3, 1) := by decide +kernel
theorem dX6_headsByRule_18 : decode cX6_headsByRule 18 = .ok (.iaload, 1) := by decide +kernel
theorem dX6_headsByRule_19 : decode cX6_headsByRule 19 = .ok (.iload_n 1, 1) := by decide +kernel
theorem dX6_headsByRule_20 : decode cX6_headsByRule 20 = .ok (.invokestatic 48, 3) := by decide +kernel
theorem dX6_headsByRule_23 : decode cX6_headsByRule 23 = .ok (.iadd, 1) := by decide +kernel
theorem dX6_headsByRule_24 : decode cX6_headsByRule 24 = .ok (.istore_n 2, 1) := by decide +kernel
theorem dX6_headsByRule_25 : decode cX6_headsByRule 25 = .ok (.iinc 3 1, 3) := by decide +kernel
theorem dX6_headsByRule_28 : decode cX6_headsByRule 28 = .ok (.goto (-24), 3) := by decide +kernel
theorem dX6_headsByRule_31 : decode cX6_headsByRule 31 = .ok (.iload_n 2, 1) := by decide +kernel
theorem dX6_headsByRule_32 : decode cX6_headsByRule 32 = .ok (.ireturn, 1) := by decide +kernel
theorem dX6_headsOfRun_0 : decode cX6_headsOfRun 0 = .ok (.iload_n 1, 1) := by decide +kernel
theorem dX6_headsOfRun_1 : decode cX6_headsOfRun 1 = .ok (.ifCond .le 8, 3) := by decide +kernel
theorem dX6_headsOfRun_4 : decode cX6_headsOfRun 4 = .ok (.iload_n 0, 1) := by decide +kernel
theorem dX6_headsOfRun_5 : decode cX6_headsOfRun 5 = .ok (.iload_n 1, 1) := by decide +kernel
theorem dX6_headsOfRun_6 : decode cX6_headsOfRun 6 = .ok (.if_icmp .gt 5, 3) := by decide +kernel
theorem dX6_headsOfRun_9 : decode cX6_headsOfRun 9 = .ok (.iconst 1, 1) := by decide +kernel
theorem dX6_headsOfRun_10 : decode cX6_headsOfRun 10 = .ok (.ireturn, 1) := by decide +kernel
theorem dX6_headsOfRun_11 : decode cX6_headsOfRun 11 = .ok (.iload_n 0, 1) := by decide +kernel
theorem dX6_headsOfRun_12 : decode cX6_headsOfRun 12 = .ok (.iload_n 1, 1) := by decide +kernel
theorem dX6_headsOfRun_13 : decode cX6_headsOfRun 13 = .ok (.irem, 1) := by decide +kernel
theorem dX6_headsOfRun_14 : decode cX6_headsOfRun 14 = .ok (.istore_n 2, 1) := by decide +kernel
theorem dX6_headsOfRun_15 : decode cX6_headsOfRun 15 = .ok (.iload_n 0, 1) := by decide +kernel
theorem dX6_headsOfRun_16 : decode cX6_headsOfRun 16 = .ok (.iload_n 1, 1) := by decide +kernel
theorem dX6_headsOfRun_17 : decode cX6_headsOfRun 17 = .ok (.idiv, 1) := by decide +kernel
theorem dX6_headsOfRun_18 : decode cX6_headsOfRun 18 = .ok (.iconst 2, 1) := by decide +kernel
theorem dX6_headsOfRun_19 : decode cX6_headsOfRun 19 = .ok (.iload_n 2, 1) := by decide +kernel
theorem dX6_headsOfRun_20 : decode cX6_headsOfRun 20 = .ok (.imul, 1) := by decide +kernel
theorem dX6_headsOfRun_21 : decode cX6_headsOfRun 21 = .ok (.iload_n 1, 1) := by decide +kernel
theorem dX6_headsOfRun_22 : decode cX6_headsOfRun 22 = .ok (.if_icmp .le 7, 3) := by decide +kernel
theorem dX6_headsOfRun_25 : decode cX6_headsOfRun 25 = .ok (.iconst 1, 1) := by decide +kernel
theorem dX6_headsOfRun_26 : decode cX6_headsOfRun 26 = .ok (.goto 4, 3) := by decide +kernel
theorem dX6_headsOfRun_29 : decode cX6_headsOfRun 29 = .ok (.iconst 0, 1) := by decide +kernel
theorem dX6_headsOfRun_30 : decode cX6_headsOfRun 30 = .ok (.iadd, 1) := by decide +kernel
theorem dX6_headsOfRun_31 : decode cX6_headsOfRun 31 = .ok (.ireturn, 1) := by decide +kernel
theorem dX7_init_0 : decode cX7_init 0 = .ok (.aload_n 0, 1) := by decide +kernel
theorem dX7_init_1 : decode cX7_init 1 = .ok (.invokespecial 1, 3) := by decide +kernel
theorem dX7_init_4 : decode cX7_init 4 = .ok (.aload_n 0, 1) := by decide +kernel
theorem dX7_init_5 : decode cX7_init 5 = .ok (.bipush 6, 2) := by decide +kernel
theorem dX7_init_7 : decode cX7_init 7 = .ok (.newarray .int, 2) := by decide +kernel
theorem dX7_init_9 : decode cX7_init 9 = .ok (.putfield 9, 3) := by decide +kernel
theorem dX7_init_12 : decode cX7_init 12 = .ok (.aload_n 0, 1) := by decide +kernel
theorem dX7_init_13 : decode cX7_init 13 = .ok (.bipush 6, 2) := by decide +kernel
theorem dX7_init_15 : decode cX7_init 15 = .ok (.newarray .int, 2) := by decide +kernel
theorem dX7_init_17 : decode cX7_init 17 = .ok (.putfield 13, 3) := by decide +kernel
theorem dX7_init_20 : decode cX7_init 20 = .ok (.return_, 1) := by decide +kernel
theorem dX7_add_0 : decode cX7_add 0 = .ok (.aload_n 0, 1) := by decide +kernel
theorem dX7_add_1 : decode cX7_add 1 = .ok (.getfield 16, 3) := by decide +kernel
theorem dX7_add_4 : decode cX7_add 4 = .ok (.bipush 6, 2) := by decide +kernel
theorem dX7_add_6 : decode cX7_add 6 = .ok (.if_icmp .ge 33, 3) := by decide +kernel
theorem dX7_add_9 : decode cX7_add 9 = .ok (.aload_n 0, 1) := by decide +kernel
theorem dX7_add_10 : decode cX7_add 10 = .ok (.getfield 9, 3) := by decide +kernel
theorem dX7_add_13 : decode cX7_add 13 = .ok (.aload_n 0, 1) := by decide +kernel
theorem dX7_add_14 : decode cX7_add 14 = .ok (.getfield 16, 3) := by decide +kernel
theorem dX7_add_17 : decode cX7_add 17 = .ok (.iload_n 1, 1) := by decide +kernel
theorem dX7_add_18 : decode cX7_add 18 = .ok (.iastore, 1) := by decide +kernel
theorem dX7_add_19 : decode cX7_add 19 = .ok (.aload_n 0, 1) := by decide +kernel
theorem dX7_add_20 : decode cX7_add 20 = .ok (.getfield 13, 3) := by decide +kernel
theorem dX7_add_23 : decode cX7_add 23 = .ok (.aload_n 0, 1) := by decide +kernel
theorem dX7_add_24 : decode cX7_add 24 = .ok (.getfield 16, 3) := by decide +kernel
theorem dX7_add_27 : decode cX7_add 27 = .ok (.iload_n 2, 1) := by decide +kernel
theorem dX7_add_28 : decode cX7_add 28 = .ok (.iastore, 1) := by decide +kernel
theorem dX7_add_29 : decode cX7_add 29 = .ok (.aload_n 0, 1) := by decide +kernel
theorem dX7_add_30 : decode cX7_add 30 = .ok (.dup, 1) := by decide +kernel
theorem dX7_add_31 : decode cX7_add 31 = .ok (.getfield 16, 3) := by decide +kernel
theorem dX7_add_34 : decode cX7_add 34 = .ok (.iconst 1, 1) := by decide +kernel
theorem dX7_add_35 : decode cX7_add 35 = .ok (.iadd, 1) := by decide +kernel
theorem dX7_add_36 : decode cX7_add 36 = .ok (.putfield 16, 3) := by decide +kernel
theorem dX7_add_39 : decode cX7_add 39 = .ok (.return_, 1) := by decide +kernel
theorem dX7_copyFrom_0 : decode cX7_copyFrom 0 = .ok (.aload_n 0, 1) := by decide +kernel
theorem dX7_copyFrom_1 : decode cX7_copyFrom 1 = .ok (.aload_n 1, 1) := by decide +kernel
theorem dX7_copyFrom_2 : decode cX7_copyFrom 2 = .ok (.getfield 16, 3) := by decide +kernel
theorem dX7_copyFrom_5 : decode cX7_copyFrom 5 = .ok (.putfield 16, 3) := by decide +kernel
theorem dX7_copyFrom_8 : decode cX7_copyFrom 8 = .ok (.iconst 0, 1) := by decide +kernel
theorem dX7_copyFrom_9 : decode cX7_copyFrom 9 = .ok (.istore_n 2, 1) := by decide +kernel
theorem dX7_copyFrom_10 : decode cX7_copyFrom 10 = .ok (.iload_n 2, 1) := by decide +kernel
theorem dX7_copyFrom_11 : decode cX7_copyFrom 11 = .ok (.aload_n 0, 1) := by decide +kernel
theorem dX7_copyFrom_12 : decode cX7_copyFrom 12 = .ok (.getfield 16, 3) := by decide +kernel
theorem dX7_copyFrom_15 : decode cX7_copyFrom 15 = .ok (.if_icmp .ge 33, 3) := by decide +kernel
theorem dX7_copyFrom_18 : decode cX7_copyFrom 18 = .ok (.aload_n 0, 1) := by decide +kernel
theorem dX7_copyFrom_19 : decode cX7_copyFrom 19 = .ok (.getfield 9, 3) := by decide +kernel
theorem dX7_copyFrom_22 : decode cX7_copyFrom 22 = .ok (.iload_n 2, 1) := by decide +kernel
theorem dX7_copyFrom_23 : decode cX7_copyFrom 23 = .ok (.aload_n 1, 1) := by decide +kernel
theorem dX7_copyFrom_24 : decode cX7_copyFrom 24 = .ok (.getfield 9, 3) := by decide +kernel
theorem dX7_copyFrom_27 : decode cX7_copyFrom 27 = .ok (.iload_n 2, 1) := by decide +kernel
theorem dX7_copyFrom_28 : decode cX7_copyFrom 28 = .ok (.iaload, 1) := by decide +kernel
theorem dX7_copyFrom_29 : decode cX7_copyFrom 29 = .ok (.iastore, 1) := by decide +kernel
theorem dX7_copyFrom_30 : decode cX7_copyFrom 30 = .ok (.aload_n 0, 1) := by decide +kernel
theorem dX7_copyFrom_31 : decode cX7_copyFrom 31 = .ok (.getfield 13, 3) := by decide +kernel
theorem dX7_copyFrom_34 : decode cX7_copyFrom 34 = .ok (.iload_n 2, 1) := by decide +kernel
theorem dX7_copyFrom_35 : decode cX7_copyFrom 35 = .ok (.aload_n 1, 1) := by decide +kernel
theorem dX7_copyFrom_36 : decode cX7_copyFrom 36 = .ok (.getfield 13, 3) := by decide +kernel
theorem dX7_copyFrom_39 : decode cX7_copyFrom 39 = .ok (.iload_n 2, 1) := by decide +kernel
theorem dX7_copyFrom_40 : decode cX7_copyFrom 40 = .ok (.iaload, 1) := by decide +kernel
theorem dX7_copyFrom_41 : decode cX7_copyFrom 41 = .ok (.iastore, 1) := by decide +kernel
theorem dX7_copyFrom_42 : decode cX7_copyFrom 42 = .ok (.iinc 2 1, 3) := by decide +kernel
theorem dX7_copyFrom_45 : decode cX7_copyFrom 45 = .ok (.goto (-35), 3) := by decide +kernel
theorem dX7_copyFrom_48 : decode cX7_copyFrom 48 = .ok (.return_, 1) := by decide +kernel
theorem dX8_init_0 : decode cX8_init 0 = .ok (.aload_n 0, 1) := by decide +kernel
theorem dX8_init_1 : decode cX8_init 1 = .ok (.invokespecial 1, 3) := by decide +kernel
theorem dX8_init_4 : decode cX8_init 4 = .ok (.aload_n 0, 1) := by decide +kernel
theorem dX8_init_5 : decode cX8_init 5 = .ok (.new 7, 3) := by decide +kernel
theorem dX8_init_8 : decode cX8_init 8 = .ok (.dup, 1) := by decide +kernel
theorem dX8_init_9 : decode cX8_init 9 = .ok (.invokespecial 9, 3) := by decide +kernel
theorem dX8_init_12 : decode cX8_init 12 = .ok (.putfield 10, 3) := by decide +kernel
theorem dX8_init_15 : decode cX8_init 15 = .ok (.aload_n 0, 1) := by decide +kernel
theorem dX8_init_16 : decode cX8_init 16 = .ok (.new 16, 3) := by decide +kernel
theorem dX8_init_19 : decode cX8_init 19 = .ok (.dup, 1) := by decide +kernel
theorem dX8_init_20 : decode cX8_init 20 = .ok (.invokespecial 18, 3) := by decide +kernel
theorem dX8_init_23 : decode cX8_init 23 = .ok (.putfield 19, 3) := by decide +kernel
theorem dX8_init_26 : decode cX8_init 26 = .ok (.return_, 1) := by decide +kernel
theorem dX9_init_0 : decode cX9_init 0 = .ok (.aload_n 0, 1) := by decide +kernel
theorem dX9_init_1 : decode cX9_init 1 = .ok (.invokespecial 1, 3) := by decide +kernel
theorem dX9_init_4 : decode cX9_init 4 = .ok (.aload_n 0, 1) := by decide +kernel
theorem dX9_init_5 : decode cX9_init 5 = .ok (.bipush 92, 2) := by decide +kernel
theorem dX9_init_7 : decode cX9_init 7 = .ok (.newarray .byte, 2) := by decide +kernel
theorem dX9_init_9 : decode cX9_init 9 = .ok (.putfield 9, 3) := by decide +kernel
theorem dX9_init_12 : decode cX9_init 12 = .ok (.return_, 1) := by decide +kernel
theorem dX9_add_0 : decode cX9_add 0 = .ok (.aload_n 0, 1) := by decide +kernel
theorem dX9_add_1 : decode cX9_add 1 = .ok (.getfield 13, 3) := by decide +kernel
theorem dX9_add_4 : decode cX9_add 4 = .ok (.bipush 92, 2) := by decide +kernel
theorem dX9_add_6 : decode cX9_add 6 = .ok (.if_icmp .ge 24, 3) := by decide +kernel
theorem dX9_add_9 : decode cX9_add 9 = .ok (.aload_n 0, 1) := by decide +kernel
theorem dX9_add_10 : decode cX9_add 10 = .ok (.getfield 9, 3) := by decide +kernel
theorem dX9_add_13 : decode cX9_add 13 = .ok (.aload_n 0, 1) := by decide +kernel
theorem dX9_add_14 : decode cX9_add 14 = .ok (.getfield 13, 3) := by decide +kernel
theorem dX9_add_17 : decode cX9_add 17 = .ok (.iload_n 1, 1) := by decide +kernel
theorem dX9_add_18 : decode cX9_add 18 = .ok (.i2b, 1) := by decide +kernel
theorem dX9_add_19 : decode cX9_add 19 = .ok (.bastore, 1) := by decide +kernel
theorem dX9_add_20 : decode cX9_add 20 = .ok (.aload_n 0, 1) := by decide +kernel
theorem dX9_add_21 : decode cX9_add 21 = .ok (.dup, 1) := by decide +kernel
theorem dX9_add_22 : decode cX9_add 22 = .ok (.getfield 13, 3) := by decide +kernel
theorem dX9_add_25 : decode cX9_add 25 = .ok (.iconst 1, 1) := by decide +kernel
theorem dX9_add_26 : decode cX9_add 26 = .ok (.iadd, 1) := by decide +kernel
theorem dX9_add_27 : decode cX9_add 27 = .ok (.putfield 13, 3) := by decide +kernel
theorem dX9_add_30 : decode cX9_add 30 = .ok (.return_, 1) := by decide +kernel
theorem dX10_init_0 : decode cX10_init 0 = .ok (.aload_n 0, 1) := by decide +kernel
theorem dX10_init_1 : decode cX10_init 1 = .ok (.invokespecial 1, 3) := by decide +kernel
theorem dX10_init_4 : decode cX10_init 4 = .ok (.aload_n 0, 1) := by decide +kernel
theorem dX10_init_5 : decode cX10_init 5 = .ok (.new 7, 3) := by decide +kernel
theorem dX10_init_8 : decode cX10_init 8 = .ok (.dup, 1) := by decide +kernel
theorem dX10_init_9 : decode cX10_init 9 = .ok (.invokespecial 9, 3) := by decide +kernel
theorem dX10_init_12 : decode cX10_init 12 = .ok (.putfield 10, 3) := by decide +kernel
theorem dX10_init_15 : decode cX10_init 15 = .ok (.aload_n 0, 1) := by decide +kernel
theorem dX10_init_16 : decode cX10_init 16 = .ok (.new 16, 3) := by decide +kernel
theorem dX10_init_19 : decode cX10_init 19 = .ok (.dup, 1) := by decide +kernel
theorem dX10_init_20 : decode cX10_init 20 = .ok (.invokespecial 18, 3) := by decide +kernel
theorem dX10_init_23 : decode cX10_init 23 = .ok (.putfield 19, 3) := by decide +kernel
theorem dX10_init_26 : decode cX10_init 26 = .ok (.aload_n 0, 1) := by decide +kernel
theorem dX10_init_27 : decode cX10_init 27 = .ok (.new 23, 3) := by decide +kernel
theorem dX10_init_30 : decode cX10_init 30 = .ok (.dup, 1) := by decide +kernel
theorem dX10_init_31 : decode cX10_init 31 = .ok (.invokespecial 25, 3) := by decide +kernel
theorem dX10_init_34 : decode cX10_init 34 = .ok (.putfield 26, 3) := by decide +kernel
theorem dX10_init_37 : decode cX10_init 37 = .ok (.aload_n 0, 1) := by decide +kernel
theorem dX10_init_38 : decode cX10_init 38 = .ok (.new 30, 3) := by decide +kernel
theorem dX10_init_41 : decode cX10_init 41 = .ok (.dup, 1) := by decide +kernel
theorem dX10_init_42 : decode cX10_init 42 = .ok (.invokespecial 32, 3) := by decide +kernel
theorem dX10_init_45 : decode cX10_init 45 = .ok (.putfield 33, 3) := by decide +kernel
theorem dX10_init_48 : decode cX10_init 48 = .ok (.aload_n 0, 1) := by decide +kernel
theorem dX10_init_49 : decode cX10_init 49 = .ok (.new 37, 3) := by decide +kernel
theorem dX10_init_52 : decode cX10_init 52 = .ok (.dup, 1) := by decide +kernel
end
section
theorem dX10_init_53 : decode cX10_init 53 = .ok (.invokespecial 39, 3) := by decide +kernel
theorem dX10_init_56 : decode cX10_init 56 = .ok (.putfield 40, 3) := by decide +kernel
theorem dX10_init_59 : decode cX10_init 59 = .ok (.aload_n 0, 1) := by decide +kernel
theorem dX10_init_60 : decode cX10_init 60 = .ok (.new 44, 3) := by decide +kernel
theorem dX10_init_63 : decode cX10_init 63 = .ok (.dup, 1) := by decide +kernel
theorem dX10_init_64 : decode cX10_init 64 = .ok (.invokespecial 46, 3) := by decide +kernel
theorem dX10_init_67 : decode cX10_init 67 = .ok (.putfield 47, 3) := by decide +kernel
theorem dX10_init_70 : decode cX10_init 70 = .ok (.aload_n 0, 1) := by decide +kernel
theorem dX10_init_71 : decode cX10_init 71 = .ok (.new 51, 3) := by decide +kernel
theorem dX10_init_74 : decode cX10_init 74 = .ok (.dup, 1) := by decide +kernel
theorem dX10_init_75 : decode cX10_init 75 = .ok (.invokespecial 53, 3) := by decide +kernel
theorem dX10_init_78 : decode cX10_init 78 = .ok (.putfield 54, 3) := by decide +kernel
theorem dX10_init_81 : decode cX10_init 81 = .ok (.aload_n 0, 1) := by decide +kernel
theorem dX10_init_82 : decode cX10_init 82 = .ok (.iconst 2, 1) := by decide +kernel
theorem dX10_init_83 : decode cX10_init 83 = .ok (.anewarray 58, 3) := by decide +kernel
theorem dX10_init_86 : decode cX10_init 86 = .ok (.dup, 1) := by decide +kernel
theorem dX10_init_87 : decode cX10_init 87 = .ok (.iconst 0, 1) := by decide +kernel
theorem dX10_init_88 : decode cX10_init 88 = .ok (.new 58, 3) := by decide +kernel
theorem dX10_init_91 : decode cX10_init 91 = .ok (.dup, 1) := by decide +kernel
theorem dX10_init_92 : decode cX10_init 92 = .ok (.invokespecial 60, 3) := by decide +kernel
theorem dX10_init_95 : decode cX10_init 95 = .ok (.aastore, 1) := by decide +kernel
theorem dX10_init_96 : decode cX10_init 96 = .ok (.dup, 1) := by decide +kernel
theorem dX10_init_97 : decode cX10_init 97 = .ok (.iconst 1, 1) := by decide +kernel
theorem dX10_init_98 : decode cX10_init 98 = .ok (.new 58, 3) := by decide +kernel
theorem dX10_init_101 : decode cX10_init 101 = .ok (.dup, 1) := by decide +kernel
theorem dX10_init_102 : decode cX10_init 102 = .ok (.invokespecial 60, 3) := by decide +kernel
theorem dX10_init_105 : decode cX10_init 105 = .ok (.aastore, 1) := by decide +kernel
theorem dX10_init_106 : decode cX10_init 106 = .ok (.putfield 61, 3) := by decide +kernel
theorem dX10_init_109 : decode cX10_init 109 = .ok (.return_, 1) := by decide +kernel
theorem dX10_write_0 : decode cX10_write 0 = .ok (.iload_n 1, 1) := by decide +kernel
theorem dX10_write_1 : decode cX10_write 1 = .ok (.iconst 1, 1) := by decide +kernel
theorem dX10_write_2 : decode cX10_write 2 = .ok (.if_icmp .lt 9, 3) := by decide +kernel
theorem dX10_write_5 : decode cX10_write 5 = .ok (.iload_n 1, 1) := by decide +kernel
theorem dX10_write_6 : decode cX10_write 6 = .ok (.bipush 8, 2) := by decide +kernel
theorem dX10_write_8 : decode cX10_write 8 = .ok (.if_icmp .le 6, 3) := by decide +kernel
theorem dX10_write_11 : decode cX10_write 11 = .ok (.bipush (-2), 2) := by decide +kernel
theorem dX10_write_13 : decode cX10_write 13 = .ok (.ireturn, 1) := by decide +kernel
theorem dX10_write_14 : decode cX10_write 14 = .ok (.aload_n 0, 1) := by decide +kernel
theorem dX10_write_15 : decode cX10_write 15 = .ok (.getfield 10, 3) := by decide +kernel
theorem dX10_write_18 : decode cX10_write 18 = .ok (.getfield 65, 3) := by decide +kernel
theorem dX10_write_21 : decode cX10_write 21 = .ok (.iload_n 1, 1) := by decide +kernel
theorem dX10_write_22 : decode cX10_write 22 = .ok (.iadd, 1) := by decide +kernel
theorem dX10_write_23 : decode cX10_write 23 = .ok (.bipush 92, 2) := by decide +kernel
theorem dX10_write_25 : decode cX10_write 25 = .ok (.if_icmp .le 6, 3) := by decide +kernel
theorem dX10_write_28 : decode cX10_write 28 = .ok (.bipush (-4), 2) := by decide +kernel
theorem dX10_write_30 : decode cX10_write 30 = .ok (.ireturn, 1) := by decide +kernel
theorem dX10_write_31 : decode cX10_write 31 = .ok (.iload_n 1, 1) := by decide +kernel
theorem dX10_write_32 : decode cX10_write 32 = .ok (.iconst 1, 1) := by decide +kernel
theorem dX10_write_33 : decode cX10_write 33 = .ok (.isub, 1) := by decide +kernel
theorem dX10_write_34 : decode cX10_write 34 = .ok (.istore 4, 2) := by decide +kernel
theorem dX10_write_36 : decode cX10_write 36 = .ok (.iload 4, 2) := by decide +kernel
theorem dX10_write_38 : decode cX10_write 38 = .ok (.ifCond .lt 28, 3) := by decide +kernel
theorem dX10_write_41 : decode cX10_write 41 = .ok (.aload_n 0, 1) := by decide +kernel
theorem dX10_write_42 : decode cX10_write 42 = .ok (.getfield 10, 3) := by decide +kernel
theorem dX10_write_45 : decode cX10_write 45 = .ok (.lload_n 2, 1) := by decide +kernel
theorem dX10_write_46 : decode cX10_write 46 = .ok (.bipush 8, 2) := by decide +kernel
theorem dX10_write_48 : decode cX10_write 48 = .ok (.iload 4, 2) := by decide +kernel
theorem dX10_write_50 : decode cX10_write 50 = .ok (.imul, 1) := by decide +kernel
theorem dX10_write_51 : decode cX10_write 51 = .ok (.lushr, 1) := by decide +kernel
theorem dX10_write_52 : decode cX10_write 52 = .ok (.l2i, 1) := by decide +kernel
theorem dX10_write_53 : decode cX10_write 53 = .ok (.sipush 255, 3) := by decide +kernel
theorem dX10_write_56 : decode cX10_write 56 = .ok (.iand, 1) := by decide +kernel
theorem dX10_write_57 : decode cX10_write 57 = .ok (.invokevirtual 69, 3) := by decide +kernel
theorem dX10_write_60 : decode cX10_write 60 = .ok (.iinc 4 (-1), 3) := by decide +kernel
theorem dX10_write_63 : decode cX10_write 63 = .ok (.goto (-27), 3) := by decide +kernel
theorem dX10_write_66 : decode cX10_write 66 = .ok (.aload_n 0, 1) := by decide +kernel
theorem dX10_write_67 : decode cX10_write 67 = .ok (.getfield 10, 3) := by decide +kernel
theorem dX10_write_70 : decode cX10_write 70 = .ok (.getfield 65, 3) := by decide +kernel
theorem dX10_write_73 : decode cX10_write 73 = .ok (.ireturn, 1) := by decide +kernel
theorem dX10_wipe_0 : decode cX10_wipe 0 = .ok (.aload_n 0, 1) := by decide +kernel
theorem dX10_wipe_1 : decode cX10_wipe 1 = .ok (.getfield 10, 3) := by decide +kernel
theorem dX10_wipe_4 : decode cX10_wipe 4 = .ok (.getfield 65, 3) := by decide +kernel
theorem dX10_wipe_7 : decode cX10_wipe 7 = .ok (.istore_n 1, 1) := by decide +kernel
theorem dX10_wipe_8 : decode cX10_wipe 8 = .ok (.aload_n 0, 1) := by decide +kernel
theorem dX10_wipe_9 : decode cX10_wipe 9 = .ok (.getfield 10, 3) := by decide +kernel
theorem dX10_wipe_12 : decode cX10_wipe 12 = .ok (.iconst 0, 1) := by decide +kernel
theorem dX10_wipe_13 : decode cX10_wipe 13 = .ok (.putfield 65, 3) := by decide +kernel
theorem dX10_wipe_16 : decode cX10_wipe 16 = .ok (.iload_n 1, 1) := by decide +kernel
theorem dX10_wipe_17 : decode cX10_wipe 17 = .ok (.ireturn, 1) := by decide +kernel
theorem dX10_fault_0 : decode cX10_fault 0 = .ok (.aload_n 0, 1) := by decide +kernel
theorem dX10_fault_1 : decode cX10_fault 1 = .ok (.getfield 19, 3) := by decide +kernel
theorem dX10_fault_4 : decode cX10_fault 4 = .ok (.aload_n 0, 1) := by decide +kernel
theorem dX10_fault_5 : decode cX10_fault 5 = .ok (.getfield 10, 3) := by decide +kernel
theorem dX10_fault_8 : decode cX10_fault 8 = .ok (.invokevirtual 73, 3) := by decide +kernel
theorem dX10_fault_11 : decode cX10_fault 11 = .ok (.ireturn, 1) := by decide +kernel
theorem dX10_place_0 : decode cX10_place 0 = .ok (.aload_n 0, 1) := by decide +kernel
theorem dX10_place_1 : decode cX10_place 1 = .ok (.getfield 19, 3) := by decide +kernel
theorem dX10_place_4 : decode cX10_place 4 = .ok (.aload_n 0, 1) := by decide +kernel
theorem dX10_place_5 : decode cX10_place 5 = .ok (.getfield 10, 3) := by decide +kernel
theorem dX10_place_8 : decode cX10_place 8 = .ok (.invokevirtual 73, 3) := by decide +kernel
theorem dX10_place_11 : decode cX10_place 11 = .ok (.bipush (-9), 2) := by decide +kernel
theorem dX10_place_13 : decode cX10_place 13 = .ok (.if_icmp .eq 6, 3) := by decide +kernel
theorem dX10_place_16 : decode cX10_place 16 = .ok (.bipush (-3), 2) := by decide +kernel
theorem dX10_place_18 : decode cX10_place 18 = .ok (.ireturn, 1) := by decide +kernel
theorem dX10_place_19 : decode cX10_place 19 = .ok (.aload_n 0, 1) := by decide +kernel
theorem dX10_place_20 : decode cX10_place 20 = .ok (.getfield 26, 3) := by decide +kernel
theorem dX10_place_23 : decode cX10_place 23 = .ok (.aload_n 0, 1) := by decide +kernel
theorem dX10_place_24 : decode cX10_place 24 = .ok (.getfield 19, 3) := by decide +kernel
theorem dX10_place_27 : decode cX10_place 27 = .ok (.getfield 77, 3) := by decide +kernel
theorem dX10_place_30 : decode cX10_place 30 = .ok (.invokevirtual 80, 3) := by decide +kernel
theorem dX10_place_33 : decode cX10_place 33 = .ok (.aload_n 0, 1) := by decide +kernel
theorem dX10_place_34 : decode cX10_place 34 = .ok (.getfield 33, 3) := by decide +kernel
theorem dX10_place_37 : decode cX10_place 37 = .ok (.invokevirtual 84, 3) := by decide +kernel
theorem dX10_place_40 : decode cX10_place 40 = .ok (.iconst 0, 1) := by decide +kernel
theorem dX10_place_41 : decode cX10_place 41 = .ok (.istore_n 1, 1) := by decide +kernel
theorem dX10_place_42 : decode cX10_place 42 = .ok (.iload_n 1, 1) := by decide +kernel
theorem dX10_place_43 : decode cX10_place 43 = .ok (.iconst 2, 1) := by decide +kernel
theorem dX10_place_44 : decode cX10_place 44 = .ok (.if_icmp .ge 19, 3) := by decide +kernel
theorem dX10_place_47 : decode cX10_place 47 = .ok (.aload_n 0, 1) := by decide +kernel
theorem dX10_place_48 : decode cX10_place 48 = .ok (.getfield 61, 3) := by decide +kernel
theorem dX10_place_51 : decode cX10_place 51 = .ok (.iload_n 1, 1) := by decide +kernel
theorem dX10_place_52 : decode cX10_place 52 = .ok (.aaload, 1) := by decide +kernel
theorem dX10_place_53 : decode cX10_place 53 = .ok (.iconst 0, 1) := by decide +kernel
theorem dX10_place_54 : decode cX10_place 54 = .ok (.putfield 87, 3) := by decide +kernel
theorem dX10_place_57 : decode cX10_place 57 = .ok (.iinc 1 1, 3) := by decide +kernel
theorem dX10_place_60 : decode cX10_place 60 = .ok (.goto (-18), 3) := by decide +kernel
theorem dX10_place_63 : decode cX10_place 63 = .ok (.aload_n 0, 1) := by decide +kernel
theorem dX10_place_64 : decode cX10_place 64 = .ok (.getfield 26, 3) := by decide +kernel
theorem dX10_place_67 : decode cX10_place 67 = .ok (.getfield 91, 3) := by decide +kernel
theorem dX10_place_70 : decode cX10_place 70 = .ok (.getfield 95, 3) := by decide +kernel
theorem dX10_place_73 : decode cX10_place 73 = .ok (.ireturn, 1) := by decide +kernel
theorem dX10_body_0 : decode cX10_body 0 = .ok (.aload_n 0, 1) := by decide +kernel
theorem dX10_body_1 : decode cX10_body 1 = .ok (.getfield 26, 3) := by decide +kernel
theorem dX10_body_4 : decode cX10_body 4 = .ok (.getfield 91, 3) := by decide +kernel
theorem dX10_body_7 : decode cX10_body 7 = .ok (.astore_n 3, 1) := by decide +kernel
theorem dX10_body_8 : decode cX10_body 8 = .ok (.aload_n 3, 1) := by decide +kernel
theorem dX10_body_9 : decode cX10_body 9 = .ok (.iload_n 1, 1) := by decide +kernel
theorem dX10_body_10 : decode cX10_body 10 = .ok (.invokevirtual 98, 3) := by decide +kernel
theorem dX10_body_13 : decode cX10_body 13 = .ok (.ifCond .ne 5, 3) := by decide +kernel
theorem dX10_body_16 : decode cX10_body 16 = .ok (.iconst (-1), 1) := by decide +kernel
theorem dX10_body_17 : decode cX10_body 17 = .ok (.ireturn, 1) := by decide +kernel
theorem dX10_body_18 : decode cX10_body 18 = .ok (.iload_n 2, 1) := by decide +kernel
theorem dX10_body_19 : decode cX10_body 19 = .ok (.tableswitch 66 0 4 #[33, 40, 47, 54, 60], 33) := by decide +kernel
theorem dX10_body_52 : decode cX10_body 52 = .ok (.aload_n 3, 1) := by decide +kernel
theorem dX10_body_53 : decode cX10_body 53 = .ok (.getfield 102, 3) := by decide +kernel
theorem dX10_body_56 : decode cX10_body 56 = .ok (.iload_n 1, 1) := by decide +kernel
theorem dX10_body_57 : decode cX10_body 57 = .ok (.iaload, 1) := by decide +kernel
theorem dX10_body_58 : decode cX10_body 58 = .ok (.ireturn, 1) := by decide +kernel
theorem dX10_body_59 : decode cX10_body 59 = .ok (.aload_n 3, 1) := by decide +kernel
theorem dX10_body_60 : decode cX10_body 60 = .ok (.getfield 106, 3) := by decide +kernel
theorem dX10_body_63 : decode cX10_body 63 = .ok (.iload_n 1, 1) := by decide +kernel
theorem dX10_body_64 : decode cX10_body 64 = .ok (.iaload, 1) := by decide +kernel
theorem dX10_body_65 : decode cX10_body 65 = .ok (.ireturn, 1) := by decide +kernel
theorem dX10_body_66 : decode cX10_body 66 = .ok (.aload_n 3, 1) := by decide +kernel
theorem dX10_body_67 : decode cX10_body 67 = .ok (.getfield 109, 3) := by decide +kernel
theorem dX10_body_70 : decode cX10_body 70 = .ok (.iload_n 1, 1) := by decide +kernel
theorem dX10_body_71 : decode cX10_body 71 = .ok (.iaload, 1) := by decide +kernel
theorem dX10_body_72 : decode cX10_body 72 = .ok (.ireturn, 1) := by decide +kernel
theorem dX10_body_73 : decode cX10_body 73 = .ok (.aload_n 3, 1) := by decide +kernel
theorem dX10_body_74 : decode cX10_body 74 = .ok (.iload_n 1, 1) := by decide +kernel
theorem dX10_body_75 : decode cX10_body 75 = .ok (.invokevirtual 112, 3) := by decide +kernel
theorem dX10_body_78 : decode cX10_body 78 = .ok (.ireturn, 1) := by decide +kernel
theorem dX10_body_79 : decode cX10_body 79 = .ok (.aload_n 3, 1) := by decide +kernel
theorem dX10_body_80 : decode cX10_body 80 = .ok (.iload_n 1, 1) := by decide +kernel
theorem dX10_body_81 : decode cX10_body 81 = .ok (.invokevirtual 116, 3) := by decide +kernel
theorem dX10_body_84 : decode cX10_body 84 = .ok (.ireturn, 1) := by decide +kernel
theorem dX10_body_85 : decode cX10_body 85 = .ok (.bipush (-2), 2) := by decide +kernel
theorem dX10_body_87 : decode cX10_body 87 = .ok (.ireturn, 1) := by decide +kernel
theorem dX10_hill_0 : decode cX10_hill 0 = .ok (.aload_n 0, 1) := by decide +kernel
theorem dX10_hill_1 : decode cX10_hill 1 = .ok (.getfield 26, 3) := by decide +kernel
theorem dX10_hill_4 : decode cX10_hill 4 = .ok (.getfield 119, 3) := by decide +kernel
theorem dX10_hill_7 : decode cX10_hill 7 = .ok (.iload_n 1, 1) := by decide +kernel
theorem dX10_hill_8 : decode cX10_hill 8 = .ok (.invokevirtual 123, 3) := by decide +kernel
theorem dX10_hill_11 : decode cX10_hill 11 = .ok (.ifCond .ne 5, 3) := by decide +kernel
theorem dX10_hill_14 : decode cX10_hill 14 = .ok (.iconst (-1), 1) := by decide +kernel
theorem dX10_hill_15 : decode cX10_hill 15 = .ok (.ireturn, 1) := by decide +kernel
theorem dX10_hill_16 : decode cX10_hill 16 = .ok (.iload_n 2, 1) := by decide +kernel
theorem dX10_hill_17 : decode cX10_hill 17 = .ok (.iconst 4, 1) := by decide +kernel
theorem dX10_hill_18 : decode cX10_hill 18 = .ok (.invokestatic 128, 3) := by decide +kernel
theorem dX10_hill_21 : decode cX10_hill 21 = .ok (.ifCond .eq 20, 3) := by decide +kernel
theorem dX10_hill_24 : decode cX10_hill 24 = .ok (.aload_n 0, 1) := by decide +kernel
theorem dX10_hill_25 : decode cX10_hill 25 = .ok (.getfield 26, 3) := by decide +kernel
theorem dX10_hill_28 : decode cX10_hill 28 = .ok (.getfield 119, 3) := by decide +kernel
theorem dX10_hill_31 : decode cX10_hill 31 = .ok (.getfield 132, 3) := by decide +kernel
theorem dX10_hill_34 : decode cX10_hill 34 = .ok (.iload_n 1, 1) := by decide +kernel
theorem dX10_hill_35 : decode cX10_hill 35 = .ok (.aaload, 1) := by decide +kernel
theorem dX10_hill_36 : decode cX10_hill 36 = .ok (.iload_n 2, 1) := by decide +kernel
theorem dX10_hill_37 : decode cX10_hill 37 = .ok (.iaload, 1) := by decide +kernel
theorem dX10_hill_38 : decode cX10_hill 38 = .ok (.goto 5, 3) := by decide +kernel
theorem dX10_hill_41 : decode cX10_hill 41 = .ok (.bipush (-2), 2) := by decide +kernel
theorem dX10_hill_43 : decode cX10_hill 43 = .ok (.ireturn, 1) := by decide +kernel
theorem dX10_put_0 : decode cX10_put 0 = .ok (.aload_n 0, 1) := by decide +kernel
theorem dX10_put_1 : decode cX10_put 1 = .ok (.getfield 26, 3) := by decide +kernel
theorem dX10_put_4 : decode cX10_put 4 = .ok (.getfield 91, 3) := by decide +kernel
theorem dX10_put_7 : decode cX10_put 7 = .ok (.astore 4, 2) := by decide +kernel
theorem dX10_put_9 : decode cX10_put 9 = .ok (.iload_n 1, 1) := by decide +kernel
theorem dX10_put_10 : decode cX10_put 10 = .ok (.bipush 6, 2) := by decide +kernel
theorem dX10_put_12 : decode cX10_put 12 = .ok (.invokestatic 128, 3) := by decide +kernel
theorem dX10_put_15 : decode cX10_put 15 = .ok (.ifCond .eq 11, 3) := by decide +kernel
theorem dX10_put_18 : decode cX10_put 18 = .ok (.iload_n 2, 1) := by decide +kernel
theorem dX10_put_19 : decode cX10_put 19 = .ok (.iload_n 3, 1) := by decide +kernel
theorem dX10_put_20 : decode cX10_put 20 = .ok (.invokestatic 136, 3) := by decide +kernel
theorem dX10_put_23 : decode cX10_put 23 = .ok (.ifCond .ne 6, 3) := by decide +kernel
theorem dX10_put_26 : decode cX10_put 26 = .ok (.bipush (-2), 2) := by decide +kernel
theorem dX10_put_28 : decode cX10_put 28 = .ok (.ireturn, 1) := by decide +kernel
theorem dX10_put_29 : decode cX10_put 29 = .ok (.aload 4, 2) := by decide +kernel
theorem dX10_put_31 : decode cX10_put 31 = .ok (.iload_n 2, 1) := by decide +kernel
theorem dX10_put_32 : decode cX10_put 32 = .ok (.iload_n 3, 1) := by decide +kernel
theorem dX10_put_33 : decode cX10_put 33 = .ok (.invokevirtual 139, 3) := by decide +kernel
theorem dX10_put_36 : decode cX10_put 36 = .ok (.ifCond .eq 6, 3) := by decide +kernel
theorem dX10_put_39 : decode cX10_put 39 = .ok (.bipush (-3), 2) := by decide +kernel
theorem dX10_put_41 : decode cX10_put 41 = .ok (.ireturn, 1) := by decide +kernel
theorem dX10_put_42 : decode cX10_put 42 = .ok (.aload 4, 2) := by decide +kernel
theorem dX10_put_44 : decode cX10_put 44 = .ok (.getfield 95, 3) := by decide +kernel
theorem dX10_put_47 : decode cX10_put 47 = .ok (.bipush 8, 2) := by decide +kernel
theorem dX10_put_49 : decode cX10_put 49 = .ok (.if_icmp .lt 6, 3) := by decide +kernel
theorem dX10_put_52 : decode cX10_put 52 = .ok (.bipush (-4), 2) := by decide +kernel
theorem dX10_put_54 : decode cX10_put 54 = .ok (.ireturn, 1) := by decide +kernel
theorem dX10_put_55 : decode cX10_put 55 = .ok (.aload 4, 2) := by decide +kernel
theorem dX10_put_57 : decode cX10_put 57 = .ok (.getfield 95, 3) := by decide +kernel
theorem dX10_put_60 : decode cX10_put 60 = .ok (.istore 5, 2) := by decide +kernel
theorem dX10_put_62 : decode cX10_put 62 = .ok (.aload 4, 2) := by decide +kernel
theorem dX10_put_64 : decode cX10_put 64 = .ok (.iload 5, 2) := by decide +kernel
theorem dX10_put_66 : decode cX10_put 66 = .ok (.iload_n 1, 1) := by decide +kernel
theorem dX10_put_67 : decode cX10_put 67 = .ok (.iload_n 2, 1) := by decide +kernel
theorem dX10_put_68 : decode cX10_put 68 = .ok (.iload_n 3, 1) := by decide +kernel
theorem dX10_put_69 : decode cX10_put 69 = .ok (.invokevirtual 142, 3) := by decide +kernel
theorem dX10_put_72 : decode cX10_put 72 = .ok (.aload_n 0, 1) := by decide +kernel
theorem dX10_put_73 : decode cX10_put 73 = .ok (.getfield 33, 3) := by decide +kernel
theorem dX10_put_76 : decode cX10_put 76 = .ok (.iconst 0, 1) := by decide +kernel
theorem dX10_put_77 : decode cX10_put 77 = .ok (.iload 5, 2) := by decide +kernel
theorem dX10_put_79 : decode cX10_put 79 = .ok (.aload 4, 2) := by decide +kernel
theorem dX10_put_81 : decode cX10_put 81 = .ok (.invokevirtual 146, 3) := by decide +kernel
theorem dX10_put_84 : decode cX10_put 84 = .ok (.iload 5, 2) := by decide +kernel
theorem dX10_put_86 : decode cX10_put 86 = .ok (.ireturn, 1) := by decide +kernel
theorem dX10_move_0 : decode cX10_move 0 = .ok (.aload_n 0, 1) := by decide +kernel
theorem dX10_move_1 : decode cX10_move 1 = .ok (.getfield 26, 3) := by decide +kernel
theorem dX10_move_4 : decode cX10_move 4 = .ok (.getfield 91, 3) := by decide +kernel
theorem dX10_move_7 : decode cX10_move 7 = .ok (.astore 4, 2) := by decide +kernel
theorem dX10_move_9 : decode cX10_move 9 = .ok (.aload 4, 2) := by decide +kernel
theorem dX10_move_11 : decode cX10_move 11 = .ok (.iload_n 1, 1) := by decide +kernel
theorem dX10_move_12 : decode cX10_move 12 = .ok (.invokevirtual 98, 3) := by decide +kernel
theorem dX10_move_15 : decode cX10_move 15 = .ok (.ifCond .ne 5, 3) := by decide +kernel
theorem dX10_move_18 : decode cX10_move 18 = .ok (.iconst (-1), 1) := by decide +kernel
theorem dX10_move_19 : decode cX10_move 19 = .ok (.ireturn, 1) := by decide +kernel
theorem dX10_move_20 : decode cX10_move 20 = .ok (.iload_n 2, 1) := by decide +kernel
theorem dX10_move_21 : decode cX10_move 21 = .ok (.iload_n 3, 1) := by decide +kernel
theorem dX10_move_22 : decode cX10_move 22 = .ok (.invokestatic 136, 3) := by decide +kernel
theorem dX10_move_25 : decode cX10_move 25 = .ok (.ifCond .ne 6, 3) := by decide +kernel
theorem dX10_move_28 : decode cX10_move 28 = .ok (.bipush (-2), 2) := by decide +kernel
theorem dX10_move_30 : decode cX10_move 30 = .ok (.ireturn, 1) := by decide +kernel
theorem dX10_move_31 : decode cX10_move 31 = .ok (.aload 4, 2) := by decide +kernel
theorem dX10_move_33 : decode cX10_move 33 = .ok (.iload_n 2, 1) := by decide +kernel
theorem dX10_move_34 : decode cX10_move 34 = .ok (.iload_n 3, 1) := by decide +kernel
theorem dX10_move_35 : decode cX10_move 35 = .ok (.invokevirtual 139, 3) := by decide +kernel
theorem dX10_move_38 : decode cX10_move 38 = .ok (.ifCond .eq 6, 3) := by decide +kernel
theorem dX10_move_41 : decode cX10_move 41 = .ok (.bipush (-3), 2) := by decide +kernel
theorem dX10_move_43 : decode cX10_move 43 = .ok (.ireturn, 1) := by decide +kernel
theorem dX10_move_44 : decode cX10_move 44 = .ok (.iload_n 2, 1) := by decide +kernel
theorem dX10_move_45 : decode cX10_move 45 = .ok (.aload 4, 2) := by decide +kernel
theorem dX10_move_47 : decode cX10_move 47 = .ok (.getfield 106, 3) := by decide +kernel
theorem dX10_move_50 : decode cX10_move 50 = .ok (.iload_n 1, 1) := by decide +kernel
theorem dX10_move_51 : decode cX10_move 51 = .ok (.iaload, 1) := by decide +kernel
theorem dX10_move_52 : decode cX10_move 52 = .ok (.isub, 1) := by decide +kernel
theorem dX10_move_53 : decode cX10_move 53 = .ok (.invokestatic 150, 3) := by decide +kernel
theorem dX10_move_56 : decode cX10_move 56 = .ok (.iload_n 3, 1) := by decide +kernel
theorem dX10_move_57 : decode cX10_move 57 = .ok (.aload 4, 2) := by decide +kernel
theorem dX10_move_59 : decode cX10_move 59 = .ok (.getfield 109, 3) := by decide +kernel
theorem dX10_move_62 : decode cX10_move 62 = .ok (.iload_n 1, 1) := by decide +kernel
theorem dX10_move_63 : decode cX10_move 63 = .ok (.iaload, 1) := by decide +kernel
theorem dX10_move_64 : decode cX10_move 64 = .ok (.isub, 1) := by decide +kernel
theorem dX10_move_65 : decode cX10_move 65 = .ok (.invokestatic 150, 3) := by decide +kernel
theorem dX10_move_68 : decode cX10_move 68 = .ok (.iadd, 1) := by decide +kernel
theorem dX10_move_69 : decode cX10_move 69 = .ok (.istore 5, 2) := by decide +kernel
theorem dX10_move_71 : decode cX10_move 71 = .ok (.aload_n 0, 1) := by decide +kernel
theorem dX10_move_72 : decode cX10_move 72 = .ok (.getfield 33, 3) := by decide +kernel
theorem dX10_move_75 : decode cX10_move 75 = .ok (.iconst 1, 1) := by decide +kernel
theorem dX10_move_76 : decode cX10_move 76 = .ok (.iload_n 1, 1) := by decide +kernel
theorem dX10_move_77 : decode cX10_move 77 = .ok (.aload 4, 2) := by decide +kernel
theorem dX10_move_79 : decode cX10_move 79 = .ok (.invokevirtual 146, 3) := by decide +kernel
theorem dX10_move_82 : decode cX10_move 82 = .ok (.aload 4, 2) := by decide +kernel
theorem dX10_move_84 : decode cX10_move 84 = .ok (.getfield 106, 3) := by decide +kernel
theorem dX10_move_87 : decode cX10_move 87 = .ok (.iload_n 1, 1) := by decide +kernel
theorem dX10_move_88 : decode cX10_move 88 = .ok (.iload_n 2, 1) := by decide +kernel
theorem dX10_move_89 : decode cX10_move 89 = .ok (.iastore, 1) := by decide +kernel
theorem dX10_move_90 : decode cX10_move 90 = .ok (.aload 4, 2) := by decide +kernel
theorem dX10_move_92 : decode cX10_move 92 = .ok (.getfield 109, 3) := by decide +kernel
theorem dX10_move_95 : decode cX10_move 95 = .ok (.iload_n 1, 1) := by decide +kernel
theorem dX10_move_96 : decode cX10_move 96 = .ok (.iload_n 3, 1) := by decide +kernel
theorem dX10_move_97 : decode cX10_move 97 = .ok (.iastore, 1) := by decide +kernel
theorem dX10_move_98 : decode cX10_move 98 = .ok (.iload 5, 2) := by decide +kernel
theorem dX10_move_100 : decode cX10_move 100 = .ok (.ireturn, 1) := by decide +kernel
theorem dX10_take_0 : decode cX10_take 0 = .ok (.aload_n 0, 1) := by decide +kernel
theorem dX10_take_1 : decode cX10_take 1 = .ok (.getfield 26, 3) := by decide +kernel
theorem dX10_take_4 : decode cX10_take 4 = .ok (.getfield 91, 3) := by decide +kernel
theorem dX10_take_7 : decode cX10_take 7 = .ok (.astore_n 2, 1) := by decide +kernel
theorem dX10_take_8 : decode cX10_take 8 = .ok (.aload_n 2, 1) := by decide +kernel
theorem dX10_take_9 : decode cX10_take 9 = .ok (.iload_n 1, 1) := by decide +kernel
theorem dX10_take_10 : decode cX10_take 10 = .ok (.invokevirtual 98, 3) := by decide +kernel
theorem dX10_take_13 : decode cX10_take 13 = .ok (.ifCond .ne 5, 3) := by decide +kernel
theorem dX10_take_16 : decode cX10_take 16 = .ok (.iconst (-1), 1) := by decide +kernel
theorem dX10_take_17 : decode cX10_take 17 = .ok (.ireturn, 1) := by decide +kernel
theorem dX10_take_18 : decode cX10_take 18 = .ok (.aload_n 0, 1) := by decide +kernel
theorem dX10_take_19 : decode cX10_take 19 = .ok (.getfield 33, 3) := by decide +kernel
theorem dX10_take_22 : decode cX10_take 22 = .ok (.iconst 2, 1) := by decide +kernel
theorem dX10_take_23 : decode cX10_take 23 = .ok (.iload_n 1, 1) := by decide +kernel
theorem dX10_take_24 : decode cX10_take 24 = .ok (.aload_n 2, 1) := by decide +kernel
theorem dX10_take_25 : decode cX10_take 25 = .ok (.invokevirtual 146, 3) := by decide +kernel
theorem dX10_take_28 : decode cX10_take 28 = .ok (.aload_n 2, 1) := by decide +kernel
theorem dX10_take_29 : decode cX10_take 29 = .ok (.iload_n 1, 1) := by decide +kernel
theorem dX10_take_30 : decode cX10_take 30 = .ok (.invokevirtual 155, 3) := by decide +kernel
theorem dX10_take_33 : decode cX10_take 33 = .ok (.aload_n 2, 1) := by decide +kernel
theorem dX10_take_34 : decode cX10_take 34 = .ok (.getfield 95, 3) := by decide +kernel
theorem dX10_take_37 : decode cX10_take 37 = .ok (.ireturn, 1) := by decide +kernel
theorem dX10_back_0 : decode cX10_back 0 = .ok (.aload_n 0, 1) := by decide +kernel
theorem dX10_back_1 : decode cX10_back 1 = .ok (.getfield 33, 3) := by decide +kernel
theorem dX10_back_4 : decode cX10_back 4 = .ok (.getfield 158, 3) := by decide +kernel
theorem dX10_back_7 : decode cX10_back 7 = .ok (.ifCond .ne 6, 3) := by decide +kernel
theorem dX10_back_10 : decode cX10_back 10 = .ok (.bipush (-3), 2) := by decide +kernel
theorem dX10_back_12 : decode cX10_back 12 = .ok (.ireturn, 1) := by decide +kernel
theorem dX10_back_13 : decode cX10_back 13 = .ok (.aload_n 0, 1) := by decide +kernel
theorem dX10_back_14 : decode cX10_back 14 = .ok (.getfield 33, 3) := by decide +kernel
theorem dX10_back_17 : decode cX10_back 17 = .ok (.aload_n 0, 1) := by decide +kernel
theorem dX10_back_18 : decode cX10_back 18 = .ok (.getfield 26, 3) := by decide +kernel
theorem dX10_back_21 : decode cX10_back 21 = .ok (.getfield 91, 3) := by decide +kernel
theorem dX10_back_24 : decode cX10_back 24 = .ok (.invokevirtual 159, 3) := by decide +kernel
theorem dX10_back_27 : decode cX10_back 27 = .ok (.aload_n 0, 1) := by decide +kernel
theorem dX10_back_28 : decode cX10_back 28 = .ok (.getfield 33, 3) := by decide +kernel
theorem dX10_back_31 : decode cX10_back 31 = .ok (.getfield 158, 3) := by decide +kernel
theorem dX10_back_34 : decode cX10_back 34 = .ok (.ireturn, 1) := by decide +kernel
theorem dX10_shadow_0 : decode cX10_shadow 0 = .ok (.aload_n 0, 1) := by decide +kernel
theorem dX10_shadow_1 : decode cX10_shadow 1 = .ok (.getfield 26, 3) := by decide +kernel
theorem dX10_shadow_4 : decode cX10_shadow 4 = .ok (.getfield 91, 3) := by decide +kernel
theorem dX10_shadow_7 : decode cX10_shadow 7 = .ok (.iload_n 1, 1) := by decide +kernel
theorem dX10_shadow_8 : decode cX10_shadow 8 = .ok (.invokevirtual 98, 3) := by decide +kernel
theorem dX10_shadow_11 : decode cX10_shadow 11 = .ok (.ifCond .ne 5, 3) := by decide +kernel
theorem dX10_shadow_14 : decode cX10_shadow 14 = .ok (.iconst (-1), 1) := by decide +kernel
theorem dX10_shadow_15 : decode cX10_shadow 15 = .ok (.ireturn, 1) := by decide +kernel
theorem dX10_shadow_16 : decode cX10_shadow 16 = .ok (.iload_n 2, 1) := by decide +kernel
theorem dX10_shadow_17 : decode cX10_shadow 17 = .ok (.invokestatic 163, 3) := by decide +kernel
theorem dX10_shadow_20 : decode cX10_shadow 20 = .ok (.ifCond .eq 21, 3) := by decide +kernel
theorem dX10_shadow_23 : decode cX10_shadow 23 = .ok (.aload_n 0, 1) := by decide +kernel
theorem dX10_shadow_24 : decode cX10_shadow 24 = .ok (.getfield 26, 3) := by decide +kernel
theorem dX10_shadow_27 : decode cX10_shadow 27 = .ok (.getfield 91, 3) := by decide +kernel
theorem dX10_shadow_30 : decode cX10_shadow 30 = .ok (.iload_n 1, 1) := by decide +kernel
theorem dX10_shadow_31 : decode cX10_shadow 31 = .ok (.invokevirtual 112, 3) := by decide +kernel
theorem dX10_shadow_34 : decode cX10_shadow 34 = .ok (.iload_n 2, 1) := by decide +kernel
theorem dX10_shadow_35 : decode cX10_shadow 35 = .ok (.invokestatic 166, 3) := by decide +kernel
theorem dX10_shadow_38 : decode cX10_shadow 38 = .ok (.goto 5, 3) := by decide +kernel
theorem dX10_shadow_41 : decode cX10_shadow 41 = .ok (.bipush (-2), 2) := by decide +kernel
theorem dX10_shadow_43 : decode cX10_shadow 43 = .ok (.ireturn, 1) := by decide +kernel
theorem dX10_dark_0 : decode cX10_dark 0 = .ok (.iload_n 1, 1) := by decide +kernel
theorem dX10_dark_1 : decode cX10_dark 1 = .ok (.invokestatic 163, 3) := by decide +kernel
theorem dX10_dark_4 : decode cX10_dark 4 = .ok (.ifCond .eq 24, 3) := by decide +kernel
theorem dX10_dark_7 : decode cX10_dark 7 = .ok (.iload_n 2, 1) := by decide +kernel
theorem dX10_dark_8 : decode cX10_dark 8 = .ok (.bipush 6, 2) := by decide +kernel
theorem dX10_dark_10 : decode cX10_dark 10 = .ok (.invokestatic 128, 3) := by decide +kernel
theorem dX10_dark_13 : decode cX10_dark 13 = .ok (.ifCond .eq 15, 3) := by decide +kernel
theorem dX10_dark_16 : decode cX10_dark 16 = .ok (.aload_n 0, 1) := by decide +kernel
theorem dX10_dark_17 : decode cX10_dark 17 = .ok (.getfield 26, 3) := by decide +kernel
theorem dX10_dark_20 : decode cX10_dark 20 = .ok (.iload_n 1, 1) := by decide +kernel
theorem dX10_dark_21 : decode cX10_dark 21 = .ok (.iload_n 2, 1) := by decide +kernel
theorem dX10_dark_22 : decode cX10_dark 22 = .ok (.invokevirtual 170, 3) := by decide +kernel
theorem dX10_dark_25 : decode cX10_dark 25 = .ok (.goto 5, 3) := by decide +kernel
theorem dX10_dark_28 : decode cX10_dark 28 = .ok (.bipush (-2), 2) := by decide +kernel
theorem dX10_dark_30 : decode cX10_dark 30 = .ok (.ireturn, 1) := by decide +kernel
theorem dX10_runs_0 : decode cX10_runs 0 = .ok (.aload_n 0, 1) := by decide +kernel
theorem dX10_runs_1 : decode cX10_runs 1 = .ok (.getfield 26, 3) := by decide +kernel
theorem dX10_runs_4 : decode cX10_runs 4 = .ok (.getfield 119, 3) := by decide +kernel
theorem dX10_runs_7 : decode cX10_runs 7 = .ok (.iload_n 1, 1) := by decide +kernel
theorem dX10_runs_8 : decode cX10_runs 8 = .ok (.invokevirtual 123, 3) := by decide +kernel
theorem dX10_runs_11 : decode cX10_runs 11 = .ok (.ifCond .ne 5, 3) := by decide +kernel
theorem dX10_runs_14 : decode cX10_runs 14 = .ok (.iconst (-1), 1) := by decide +kernel
theorem dX10_runs_15 : decode cX10_runs 15 = .ok (.ireturn, 1) := by decide +kernel
theorem dX10_runs_16 : decode cX10_runs 16 = .ok (.iload_n 2, 1) := by decide +kernel
theorem dX10_runs_17 : decode cX10_runs 17 = .ok (.invokestatic 163, 3) := by decide +kernel
theorem dX10_runs_20 : decode cX10_runs 20 = .ok (.ifCond .ne 6, 3) := by decide +kernel
theorem dX10_runs_23 : decode cX10_runs 23 = .ok (.bipush (-2), 2) := by decide +kernel
theorem dX10_runs_25 : decode cX10_runs 25 = .ok (.ireturn, 1) := by decide +kernel
theorem dX10_runs_26 : decode cX10_runs 26 = .ok (.aload_n 0, 1) := by decide +kernel
theorem dX10_runs_27 : decode cX10_runs 27 = .ok (.getfield 40, 3) := by decide +kernel
theorem dX10_runs_30 : decode cX10_runs 30 = .ok (.aload_n 0, 1) := by decide +kernel
theorem dX10_runs_31 : decode cX10_runs 31 = .ok (.getfield 26, 3) := by decide +kernel
theorem dX10_runs_34 : decode cX10_runs 34 = .ok (.iload_n 1, 1) := by decide +kernel
theorem dX10_runs_35 : decode cX10_runs 35 = .ok (.iload_n 2, 1) := by decide +kernel
theorem dX10_runs_36 : decode cX10_runs 36 = .ok (.invokevirtual 173, 3) := by decide +kernel
theorem dX10_runs_39 : decode cX10_runs 39 = .ok (.aload_n 0, 1) := by decide +kernel
theorem dX10_runs_40 : decode cX10_runs 40 = .ok (.getfield 40, 3) := by decide +kernel
theorem dX10_runs_43 : decode cX10_runs 43 = .ok (.getfield 177, 3) := by decide +kernel
theorem dX10_runs_46 : decode cX10_runs 46 = .ok (.ireturn, 1) := by decide +kernel
theorem dX10_run_0 : decode cX10_run 0 = .ok (.aload_n 0, 1) := by decide +kernel
theorem dX10_run_1 : decode cX10_run 1 = .ok (.getfield 26, 3) := by decide +kernel
theorem dX10_run_4 : decode cX10_run 4 = .ok (.getfield 119, 3) := by decide +kernel
theorem dX10_run_7 : decode cX10_run 7 = .ok (.iload_n 1, 1) := by decide +kernel
theorem dX10_run_8 : decode cX10_run 8 = .ok (.invokevirtual 123, 3) := by decide +kernel
theorem dX10_run_11 : decode cX10_run 11 = .ok (.ifCond .ne 5, 3) := by decide +kernel
theorem dX10_run_14 : decode cX10_run 14 = .ok (.iconst (-1), 1) := by decide +kernel
theorem dX10_run_15 : decode cX10_run 15 = .ok (.ireturn, 1) := by decide +kernel
theorem dX10_run_16 : decode cX10_run 16 = .ok (.iload_n 2, 1) := by decide +kernel
theorem dX10_run_17 : decode cX10_run 17 = .ok (.invokestatic 163, 3) := by decide +kernel
theorem dX10_run_20 : decode cX10_run 20 = .ok (.ifCond .eq 12, 3) := by decide +kernel
theorem dX10_run_23 : decode cX10_run 23 = .ok (.iload 4, 2) := by decide +kernel
theorem dX10_run_25 : decode cX10_run 25 = .ok (.iconst 3, 1) := by decide +kernel
theorem dX10_run_26 : decode cX10_run 26 = .ok (.invokestatic 128, 3) := by decide +kernel
theorem dX10_run_29 : decode cX10_run 29 = .ok (.ifCond .ne 6, 3) := by decide +kernel
theorem dX10_run_32 : decode cX10_run 32 = .ok (.bipush (-2), 2) := by decide +kernel
theorem dX10_run_34 : decode cX10_run 34 = .ok (.ireturn, 1) := by decide +kernel
theorem dX10_run_35 : decode cX10_run 35 = .ok (.aload_n 0, 1) := by decide +kernel
theorem dX10_run_36 : decode cX10_run 36 = .ok (.getfield 40, 3) := by decide +kernel
theorem dX10_run_39 : decode cX10_run 39 = .ok (.aload_n 0, 1) := by decide +kernel
theorem dX10_run_40 : decode cX10_run 40 = .ok (.getfield 26, 3) := by decide +kernel
theorem dX10_run_43 : decode cX10_run 43 = .ok (.iload_n 1, 1) := by decide +kernel
theorem dX10_run_44 : decode cX10_run 44 = .ok (.iload_n 2, 1) := by decide +kernel
theorem dX10_run_45 : decode cX10_run 45 = .ok (.invokevirtual 173, 3) := by decide +kernel
theorem dX10_run_48 : decode cX10_run 48 = .ok (.iload_n 3, 1) := by decide +kernel
theorem dX10_run_49 : decode cX10_run 49 = .ok (.aload_n 0, 1) := by decide +kernel
theorem dX10_run_50 : decode cX10_run 50 = .ok (.getfield 40, 3) := by decide +kernel
theorem dX10_run_53 : decode cX10_run 53 = .ok (.getfield 177, 3) := by decide +kernel
theorem dX10_run_56 : decode cX10_run 56 = .ok (.invokestatic 128, 3) := by decide +kernel
theorem dX10_run_59 : decode cX10_run 59 = .ok (.ifCond .ne 6, 3) := by decide +kernel
theorem dX10_run_62 : decode cX10_run 62 = .ok (.bipush (-9), 2) := by decide +kernel
theorem dX10_run_64 : decode cX10_run 64 = .ok (.ireturn, 1) := by decide +kernel
theorem dX10_run_65 : decode cX10_run 65 = .ok (.iload 4, 2) := by decide +kernel
theorem dX10_run_67 : decode cX10_run 67 = .ok (.ifCond .ne 13, 3) := by decide +kernel
theorem dX10_run_70 : decode cX10_run 70 = .ok (.aload_n 0, 1) := by decide +kernel
theorem dX10_run_71 : decode cX10_run 71 = .ok (.getfield 40, 3) := by decide +kernel
theorem dX10_run_74 : decode cX10_run 74 = .ok (.getfield 178, 3) := by decide +kernel
theorem dX10_run_77 : decode cX10_run 77 = .ok (.iload_n 3, 1) := by decide +kernel
theorem dX10_run_78 : decode cX10_run 78 = .ok (.iaload, 1) := by decide +kernel
theorem dX10_run_79 : decode cX10_run 79 = .ok (.ireturn, 1) := by decide +kernel
theorem dX10_run_80 : decode cX10_run 80 = .ok (.iload 4, 2) := by decide +kernel
theorem dX10_run_82 : decode cX10_run 82 = .ok (.iconst 1, 1) := by decide +kernel
theorem dX10_run_83 : decode cX10_run 83 = .ok (.if_icmp .ne 15, 3) := by decide +kernel
theorem dX10_run_86 : decode cX10_run 86 = .ok (.aload_n 0, 1) := by decide +kernel
theorem dX10_run_87 : decode cX10_run 87 = .ok (.getfield 40, 3) := by decide +kernel
theorem dX10_run_90 : decode cX10_run 90 = .ok (.getfield 181, 3) := by decide +kernel
theorem dX10_run_93 : decode cX10_run 93 = .ok (.iload_n 3, 1) := by decide +kernel
theorem dX10_run_94 : decode cX10_run 94 = .ok (.iaload, 1) := by decide +kernel
theorem dX10_run_95 : decode cX10_run 95 = .ok (.goto 12, 3) := by decide +kernel
theorem dX10_run_98 : decode cX10_run 98 = .ok (.aload_n 0, 1) := by decide +kernel
theorem dX10_run_99 : decode cX10_run 99 = .ok (.getfield 40, 3) := by decide +kernel
theorem dX10_run_102 : decode cX10_run 102 = .ok (.getfield 184, 3) := by decide +kernel
theorem dX10_run_105 : decode cX10_run 105 = .ok (.iload_n 3, 1) := by decide +kernel
theorem dX10_run_106 : decode cX10_run 106 = .ok (.iaload, 1) := by decide +kernel
theorem dX10_run_107 : decode cX10_run 107 = .ok (.ireturn, 1) := by decide +kernel
theorem dX10_alone_0 : decode cX10_alone 0 = .ok (.iload_n 1, 1) := by decide +kernel
theorem dX10_alone_1 : decode cX10_alone 1 = .ok (.invokestatic 163, 3) := by decide +kernel
theorem dX10_alone_4 : decode cX10_alone 4 = .ok (.ifCond .eq 14, 3) := by decide +kernel
theorem dX10_alone_7 : decode cX10_alone 7 = .ok (.aload_n 0, 1) := by decide +kernel
theorem dX10_alone_8 : decode cX10_alone 8 = .ok (.getfield 26, 3) := by decide +kernel
theorem dX10_alone_11 : decode cX10_alone 11 = .ok (.iload_n 1, 1) := by decide +kernel
theorem dX10_alone_12 : decode cX10_alone 12 = .ok (.invokevirtual 187, 3) := by decide +kernel
theorem dX10_alone_15 : decode cX10_alone 15 = .ok (.goto 5, 3) := by decide +kernel
theorem dX10_alone_18 : decode cX10_alone 18 = .ok (.bipush (-2), 2) := by decide +kernel
theorem dX10_alone_20 : decode cX10_alone 20 = .ok (.ireturn, 1) := by decide +kernel
theorem dX10_counted_0 : decode cX10_counted 0 = .ok (.aload_n 0, 1) := by decide +kernel
theorem dX10_counted_1 : decode cX10_counted 1 = .ok (.getfield 26, 3) := by decide +kernel
theorem dX10_counted_4 : decode cX10_counted 4 = .ok (.getfield 119, 3) := by decide +kernel
theorem dX10_counted_7 : decode cX10_counted 7 = .ok (.iload_n 1, 1) := by decide +kernel
theorem dX10_counted_8 : decode cX10_counted 8 = .ok (.invokevirtual 123, 3) := by decide +kernel
theorem dX10_counted_11 : decode cX10_counted 11 = .ok (.ifCond .ne 5, 3) := by decide +kernel
theorem dX10_counted_14 : decode cX10_counted 14 = .ok (.iconst (-1), 1) := by decide +kernel
theorem dX10_counted_15 : decode cX10_counted 15 = .ok (.ireturn, 1) := by decide +kernel
theorem dX10_counted_16 : decode cX10_counted 16 = .ok (.iload_n 2, 1) := by decide +kernel
theorem dX10_counted_17 : decode cX10_counted 17 = .ok (.invokestatic 163, 3) := by decide +kernel
theorem dX10_counted_20 : decode cX10_counted 20 = .ok (.ifCond .eq 12, 3) := by decide +kernel
theorem dX10_counted_23 : decode cX10_counted 23 = .ok (.aload_n 0, 1) := by decide +kernel
theorem dX10_counted_24 : decode cX10_counted 24 = .ok (.iload_n 1, 1) := by decide +kernel
theorem dX10_counted_25 : decode cX10_counted 25 = .ok (.iload_n 2, 1) := by decide +kernel
theorem dX10_counted_26 : decode cX10_counted 26 = .ok (.invokevirtual 190, 3) := by decide +kernel
theorem dX10_counted_29 : decode cX10_counted 29 = .ok (.goto 5, 3) := by decide +kernel
theorem dX10_counted_32 : decode cX10_counted 32 = .ok (.bipush (-2), 2) := by decide +kernel
theorem dX10_counted_34 : decode cX10_counted 34 = .ok (.ireturn, 1) := by decide +kernel
theorem dX10_best_0 : decode cX10_best 0 = .ok (.aload_n 0, 1) := by decide +kernel
theorem dX10_best_1 : decode cX10_best 1 = .ok (.getfield 26, 3) := by decide +kernel
theorem dX10_best_4 : decode cX10_best 4 = .ok (.getfield 119, 3) := by decide +kernel
theorem dX10_best_7 : decode cX10_best 7 = .ok (.iload_n 1, 1) := by decide +kernel
theorem dX10_best_8 : decode cX10_best 8 = .ok (.invokevirtual 123, 3) := by decide +kernel
theorem dX10_best_11 : decode cX10_best 11 = .ok (.ifCond .ne 5, 3) := by decide +kernel
theorem dX10_best_14 : decode cX10_best 14 = .ok (.iconst (-1), 1) := by decide +kernel
theorem dX10_best_15 : decode cX10_best 15 = .ok (.ireturn, 1) := by decide +kernel
theorem dX10_best_16 : decode cX10_best 16 = .ok (.aload_n 0, 1) := by decide +kernel
theorem dX10_best_17 : decode cX10_best 17 = .ok (.getfield 26, 3) := by decide +kernel
theorem dX10_best_20 : decode cX10_best 20 = .ok (.getfield 91, 3) := by decide +kernel
theorem dX10_best_23 : decode cX10_best 23 = .ok (.invokevirtual 193, 3) := by decide +kernel
theorem dX10_best_26 : decode cX10_best 26 = .ok (.istore_n 2, 1) := by decide +kernel
theorem dX10_best_27 : decode cX10_best 27 = .ok (.iconst 0, 1) := by decide +kernel
theorem dX10_best_28 : decode cX10_best 28 = .ok (.istore_n 3, 1) := by decide +kernel
theorem dX10_best_29 : decode cX10_best 29 = .ok (.ldc 199, 2) := by decide +kernel
theorem dX10_best_31 : decode cX10_best 31 = .ok (.istore 4, 2) := by decide +kernel
theorem dX10_best_33 : decode cX10_best 33 = .ok (.iconst 0, 1) := by decide +kernel
theorem dX10_best_34 : decode cX10_best 34 = .ok (.istore 5, 2) := by decide +kernel
theorem dX10_best_36 : decode cX10_best 36 = .ok (.iload 5, 2) := by decide +kernel
theorem dX10_best_38 : decode cX10_best 38 = .ok (.bipush 16, 2) := by decide +kernel
theorem dX10_best_40 : decode cX10_best 40 = .ok (.if_icmp .ge 37, 3) := by decide +kernel
theorem dX10_best_43 : decode cX10_best 43 = .ok (.aload_n 0, 1) := by decide +kernel
theorem dX10_best_44 : decode cX10_best 44 = .ok (.iload_n 1, 1) := by decide +kernel
theorem dX10_best_45 : decode cX10_best 45 = .ok (.iload 5, 2) := by decide +kernel
theorem dX10_best_47 : decode cX10_best 47 = .ok (.invokevirtual 190, 3) := by decide +kernel
theorem dX10_best_50 : decode cX10_best 50 = .ok (.iload_n 2, 1) := by decide +kernel
theorem dX10_best_51 : decode cX10_best 51 = .ok (.isub, 1) := by decide +kernel
theorem dX10_best_52 : decode cX10_best 52 = .ok (.invokestatic 150, 3) := by decide +kernel
theorem dX10_best_55 : decode cX10_best 55 = .ok (.istore 6, 2) := by decide +kernel
theorem dX10_best_57 : decode cX10_best 57 = .ok (.iload 6, 2) := by decide +kernel
theorem dX10_best_59 : decode cX10_best 59 = .ok (.iload 4, 2) := by decide +kernel
theorem dX10_best_61 : decode cX10_best 61 = .ok (.if_icmp .ge 10, 3) := by decide +kernel
theorem dX10_best_64 : decode cX10_best 64 = .ok (.iload 6, 2) := by decide +kernel
theorem dX10_best_66 : decode cX10_best 66 = .ok (.istore 4, 2) := by decide +kernel
theorem dX10_best_68 : decode cX10_best 68 = .ok (.iload 5, 2) := by decide +kernel
theorem dX10_best_70 : decode cX10_best 70 = .ok (.istore_n 3, 1) := by decide +kernel
theorem dX10_best_71 : decode cX10_best 71 = .ok (.iinc 5 1, 3) := by decide +kernel
theorem dX10_best_74 : decode cX10_best 74 = .ok (.goto (-38), 3) := by decide +kernel
theorem dX10_best_77 : decode cX10_best 77 = .ok (.iload_n 3, 1) := by decide +kernel
theorem dX10_best_78 : decode cX10_best 78 = .ok (.ireturn, 1) := by decide +kernel
theorem dX10_hide_0 : decode cX10_hide 0 = .ok (.iload_n 1, 1) := by decide +kernel
theorem dX10_hide_1 : decode cX10_hide 1 = .ok (.invokestatic 163, 3) := by decide +kernel
theorem dX10_hide_4 : decode cX10_hide 4 = .ok (.ifCond .eq 14, 3) := by decide +kernel
theorem dX10_hide_7 : decode cX10_hide 7 = .ok (.aload_n 0, 1) := by decide +kernel
theorem dX10_hide_8 : decode cX10_hide 8 = .ok (.getfield 26, 3) := by decide +kernel
theorem dX10_hide_11 : decode cX10_hide 11 = .ok (.iload_n 1, 1) := by decide +kernel
theorem dX10_hide_12 : decode cX10_hide 12 = .ok (.invokevirtual 200, 3) := by decide +kernel
theorem dX10_hide_15 : decode cX10_hide 15 = .ok (.goto 5, 3) := by decide +kernel
theorem dX10_hide_18 : decode cX10_hide 18 = .ok (.bipush (-2), 2) := by decide +kernel
theorem dX10_hide_20 : decode cX10_hide 20 = .ok (.ireturn, 1) := by decide +kernel
theorem dX10_sight_0 : decode cX10_sight 0 = .ok (.iload_n 1, 1) := by decide +kernel
theorem dX10_sight_1 : decode cX10_sight 1 = .ok (.invokestatic 163, 3) := by decide +kernel
theorem dX10_sight_4 : decode cX10_sight 4 = .ok (.ifCond .eq 13, 3) := by decide +kernel
theorem dX10_sight_7 : decode cX10_sight 7 = .ok (.iload_n 2, 1) := by decide +kernel
theorem dX10_sight_8 : decode cX10_sight 8 = .ok (.sipush 1024, 3) := by decide +kernel
theorem dX10_sight_11 : decode cX10_sight 11 = .ok (.invokestatic 128, 3) := by decide +kernel
theorem dX10_sight_14 : decode cX10_sight 14 = .ok (.ifCond .ne 6, 3) := by decide +kernel
theorem dX10_sight_17 : decode cX10_sight 17 = .ok (.bipush (-2), 2) := by decide +kernel
theorem dX10_sight_19 : decode cX10_sight 19 = .ok (.ireturn, 1) := by decide +kernel
theorem dX10_sight_20 : decode cX10_sight 20 = .ok (.aload_n 0, 1) := by decide +kernel
theorem dX10_sight_21 : decode cX10_sight 21 = .ok (.getfield 47, 3) := by decide +kernel
theorem dX10_sight_24 : decode cX10_sight 24 = .ok (.getfield 203, 3) := by decide +kernel
theorem dX10_sight_27 : decode cX10_sight 27 = .ok (.bipush 6, 2) := by decide +kernel
theorem dX10_sight_29 : decode cX10_sight 29 = .ok (.if_icmp .lt 6, 3) := by decide +kernel
theorem dX10_sight_32 : decode cX10_sight 32 = .ok (.bipush (-4), 2) := by decide +kernel
theorem dX10_sight_34 : decode cX10_sight 34 = .ok (.ireturn, 1) := by decide +kernel
theorem dX10_sight_35 : decode cX10_sight 35 = .ok (.aload_n 0, 1) := by decide +kernel
theorem dX10_sight_36 : decode cX10_sight 36 = .ok (.getfield 47, 3) := by decide +kernel
theorem dX10_sight_39 : decode cX10_sight 39 = .ok (.iload_n 1, 1) := by decide +kernel
theorem dX10_sight_40 : decode cX10_sight 40 = .ok (.iload_n 2, 1) := by decide +kernel
theorem dX10_sight_41 : decode cX10_sight 41 = .ok (.invokevirtual 204, 3) := by decide +kernel
theorem dX10_sight_44 : decode cX10_sight 44 = .ok (.aload_n 0, 1) := by decide +kernel
theorem dX10_sight_45 : decode cX10_sight 45 = .ok (.getfield 47, 3) := by decide +kernel
theorem dX10_sight_48 : decode cX10_sight 48 = .ok (.getfield 203, 3) := by decide +kernel
theorem dX10_sight_51 : decode cX10_sight 51 = .ok (.ireturn, 1) := by decide +kernel
theorem dX10_unsee_0 : decode cX10_unsee 0 = .ok (.aload_n 0, 1) := by decide +kernel
theorem dX10_unsee_1 : decode cX10_unsee 1 = .ok (.getfield 47, 3) := by decide +kernel
theorem dX10_unsee_4 : decode cX10_unsee 4 = .ok (.getfield 203, 3) := by decide +kernel
theorem dX10_unsee_7 : decode cX10_unsee 7 = .ok (.istore_n 1, 1) := by decide +kernel
theorem dX10_unsee_8 : decode cX10_unsee 8 = .ok (.aload_n 0, 1) := by decide +kernel
theorem dX10_unsee_9 : decode cX10_unsee 9 = .ok (.getfield 47, 3) := by decide +kernel
theorem dX10_unsee_12 : decode cX10_unsee 12 = .ok (.iconst 0, 1) := by decide +kernel
theorem dX10_unsee_13 : decode cX10_unsee 13 = .ok (.putfield 203, 3) := by decide +kernel
theorem dX10_unsee_16 : decode cX10_unsee 16 = .ok (.iload_n 1, 1) := by decide +kernel
theorem dX10_unsee_17 : decode cX10_unsee 17 = .ok (.ireturn, 1) := by decide +kernel
theorem dX10_fits_0 : decode cX10_fits 0 = .ok (.aload_n 0, 1) := by decide +kernel
theorem dX10_fits_1 : decode cX10_fits 1 = .ok (.getfield 54, 3) := by decide +kernel
theorem dX10_fits_4 : decode cX10_fits 4 = .ok (.aload_n 0, 1) := by decide +kernel
theorem dX10_fits_5 : decode cX10_fits 5 = .ok (.getfield 47, 3) := by decide +kernel
theorem dX10_fits_8 : decode cX10_fits 8 = .ok (.invokevirtual 207, 3) := by decide +kernel
theorem dX10_fits_11 : decode cX10_fits 11 = .ok (.aload_n 0, 1) := by decide +kernel
theorem dX10_fits_12 : decode cX10_fits 12 = .ok (.getfield 54, 3) := by decide +kernel
theorem dX10_fits_15 : decode cX10_fits 15 = .ok (.invokevirtual 211, 3) := by decide +kernel
theorem dX10_fits_18 : decode cX10_fits 18 = .ok (.ireturn, 1) := by decide +kernel
theorem dX10_people_0 : decode cX10_people 0 = .ok (.aload_n 0, 1) := by decide +kernel
theorem dX10_people_1 : decode cX10_people 1 = .ok (.getfield 54, 3) := by decide +kernel
theorem dX10_people_4 : decode cX10_people 4 = .ok (.aload_n 0, 1) := by decide +kernel
theorem dX10_people_5 : decode cX10_people 5 = .ok (.getfield 47, 3) := by decide +kernel
theorem dX10_people_8 : decode cX10_people 8 = .ok (.invokevirtual 207, 3) := by decide +kernel
theorem dX10_people_11 : decode cX10_people 11 = .ok (.aload_n 0, 1) := by decide +kernel
theorem dX10_people_12 : decode cX10_people 12 = .ok (.getfield 54, 3) := by decide +kernel
theorem dX10_people_15 : decode cX10_people 15 = .ok (.invokevirtual 214, 3) := by decide +kernel
theorem dX10_people_18 : decode cX10_people 18 = .ok (.ifCond .ne 6, 3) := by decide +kernel
theorem dX10_people_21 : decode cX10_people 21 = .ok (.bipush (-9), 2) := by decide +kernel
theorem dX10_people_23 : decode cX10_people 23 = .ok (.ireturn, 1) := by decide +kernel
theorem dX10_people_24 : decode cX10_people 24 = .ok (.iload_n 1, 1) := by decide +kernel
theorem dX10_people_25 : decode cX10_people 25 = .ok (.ifCond .eq 13, 3) := by decide +kernel
theorem dX10_people_28 : decode cX10_people 28 = .ok (.aload_n 0, 1) := by decide +kernel
theorem dX10_people_29 : decode cX10_people 29 = .ok (.getfield 54, 3) := by decide +kernel
theorem dX10_people_32 : decode cX10_people 32 = .ok (.invokevirtual 218, 3) := by decide +kernel
theorem dX10_people_35 : decode cX10_people 35 = .ok (.goto 10, 3) := by decide +kernel
theorem dX10_people_38 : decode cX10_people 38 = .ok (.aload_n 0, 1) := by decide +kernel
theorem dX10_people_39 : decode cX10_people 39 = .ok (.getfield 54, 3) := by decide +kernel
theorem dX10_people_42 : decode cX10_people 42 = .ok (.invokevirtual 221, 3) := by decide +kernel
theorem dX10_people_45 : decode cX10_people 45 = .ok (.ireturn, 1) := by decide +kernel
theorem dX10_sure_0 : decode cX10_sure 0 = .ok (.aload_n 0, 1) := by decide +kernel
theorem dX10_sure_1 : decode cX10_sure 1 = .ok (.getfield 54, 3) := by decide +kernel
theorem dX10_sure_4 : decode cX10_sure 4 = .ok (.aload_n 0, 1) := by decide +kernel
theorem dX10_sure_5 : decode cX10_sure 5 = .ok (.getfield 47, 3) := by decide +kernel
theorem dX10_sure_8 : decode cX10_sure 8 = .ok (.invokevirtual 207, 3) := by decide +kernel
theorem dX10_sure_11 : decode cX10_sure 11 = .ok (.aload_n 0, 1) := by decide +kernel
theorem dX10_sure_12 : decode cX10_sure 12 = .ok (.getfield 54, 3) := by decide +kernel
theorem dX10_sure_15 : decode cX10_sure 15 = .ok (.invokevirtual 214, 3) := by decide +kernel
theorem dX10_sure_18 : decode cX10_sure 18 = .ok (.ifCond .eq 13, 3) := by decide +kernel
theorem dX10_sure_21 : decode cX10_sure 21 = .ok (.aload_n 0, 1) := by decide +kernel
theorem dX10_sure_22 : decode cX10_sure 22 = .ok (.getfield 54, 3) := by decide +kernel
theorem dX10_sure_25 : decode cX10_sure 25 = .ok (.invokevirtual 224, 3) := by decide +kernel
theorem dX10_sure_28 : decode cX10_sure 28 = .ok (.goto 5, 3) := by decide +kernel
theorem dX10_sure_31 : decode cX10_sure 31 = .ok (.bipush (-9), 2) := by decide +kernel
theorem dX10_sure_33 : decode cX10_sure 33 = .ok (.ireturn, 1) := by decide +kernel
theorem dX10_next_0 : decode cX10_next 0 = .ok (.aload_n 0, 1) := by decide +kernel
theorem dX10_next_1 : decode cX10_next 1 = .ok (.getfield 54, 3) := by decide +kernel
theorem dX10_next_4 : decode cX10_next 4 = .ok (.aload_n 0, 1) := by decide +kernel
theorem dX10_next_5 : decode cX10_next 5 = .ok (.getfield 47, 3) := by decide +kernel
theorem dX10_next_8 : decode cX10_next 8 = .ok (.invokevirtual 207, 3) := by decide +kernel
theorem dX10_next_11 : decode cX10_next 11 = .ok (.aload_n 0, 1) := by decide +kernel
theorem dX10_next_12 : decode cX10_next 12 = .ok (.getfield 54, 3) := by decide +kernel
theorem dX10_next_15 : decode cX10_next 15 = .ok (.invokevirtual 214, 3) := by decide +kernel
theorem dX10_next_18 : decode cX10_next 18 = .ok (.ifCond .eq 13, 3) := by decide +kernel
theorem dX10_next_21 : decode cX10_next 21 = .ok (.aload_n 0, 1) := by decide +kernel
theorem dX10_next_22 : decode cX10_next 22 = .ok (.getfield 54, 3) := by decide +kernel
theorem dX10_next_25 : decode cX10_next 25 = .ok (.invokevirtual 227, 3) := by decide +kernel
theorem dX10_next_28 : decode cX10_next 28 = .ok (.goto 5, 3) := by decide +kernel
theorem dX10_next_31 : decode cX10_next 31 = .ok (.bipush (-9), 2) := by decide +kernel
theorem dX10_next_33 : decode cX10_next 33 = .ok (.ireturn, 1) := by decide +kernel
theorem dX10_keep_0 : decode cX10_keep 0 = .ok (.iload_n 1, 1) := by decide +kernel
theorem dX10_keep_1 : decode cX10_keep 1 = .ok (.iconst 2, 1) := by decide +kernel
theorem dX10_keep_2 : decode cX10_keep 2 = .ok (.invokestatic 128, 3) := by decide +kernel
theorem dX10_keep_5 : decode cX10_keep 5 = .ok (.ifCond .ne 5, 3) := by decide +kernel
theorem dX10_keep_8 : decode cX10_keep 8 = .ok (.iconst (-1), 1) := by decide +kernel
theorem dX10_keep_9 : decode cX10_keep 9 = .ok (.ireturn, 1) := by decide +kernel
theorem dX10_keep_10 : decode cX10_keep 10 = .ok (.aload_n 0, 1) := by decide +kernel
theorem dX10_keep_11 : decode cX10_keep 11 = .ok (.getfield 61, 3) := by decide +kernel
theorem dX10_keep_14 : decode cX10_keep 14 = .ok (.iload_n 1, 1) := by decide +kernel
theorem dX10_keep_15 : decode cX10_keep 15 = .ok (.aaload, 1) := by decide +kernel
theorem dX10_keep_16 : decode cX10_keep 16 = .ok (.getfield 230, 3) := by decide +kernel
theorem dX10_keep_19 : decode cX10_keep 19 = .ok (.aload_n 0, 1) := by decide +kernel
theorem dX10_keep_20 : decode cX10_keep 20 = .ok (.getfield 26, 3) := by decide +kernel
theorem dX10_keep_23 : decode cX10_keep 23 = .ok (.getfield 91, 3) := by decide +kernel
theorem dX10_keep_26 : decode cX10_keep 26 = .ok (.invokevirtual 231, 3) := by decide +kernel
theorem dX10_keep_29 : decode cX10_keep 29 = .ok (.aload_n 0, 1) := by decide +kernel
theorem dX10_keep_30 : decode cX10_keep 30 = .ok (.getfield 61, 3) := by decide +kernel
theorem dX10_keep_33 : decode cX10_keep 33 = .ok (.iload_n 1, 1) := by decide +kernel
theorem dX10_keep_34 : decode cX10_keep 34 = .ok (.aaload, 1) := by decide +kernel
theorem dX10_keep_35 : decode cX10_keep 35 = .ok (.getfield 233, 3) := by decide +kernel
theorem dX10_keep_38 : decode cX10_keep 38 = .ok (.aload_n 0, 1) := by decide +kernel
theorem dX10_keep_39 : decode cX10_keep 39 = .ok (.getfield 47, 3) := by decide +kernel
theorem dX10_keep_42 : decode cX10_keep 42 = .ok (.invokevirtual 234, 3) := by decide +kernel
theorem dX10_keep_45 : decode cX10_keep 45 = .ok (.aload_n 0, 1) := by decide +kernel
theorem dX10_keep_46 : decode cX10_keep 46 = .ok (.getfield 61, 3) := by decide +kernel
theorem dX10_keep_49 : decode cX10_keep 49 = .ok (.iload_n 1, 1) := by decide +kernel
theorem dX10_keep_50 : decode cX10_keep 50 = .ok (.aaload, 1) := by decide +kernel
theorem dX10_keep_51 : decode cX10_keep 51 = .ok (.iconst 1, 1) := by decide +kernel
theorem dX10_keep_52 : decode cX10_keep 52 = .ok (.putfield 87, 3) := by decide +kernel
theorem dX10_keep_55 : decode cX10_keep 55 = .ok (.aload_n 0, 1) := by decide +kernel
theorem dX10_keep_56 : decode cX10_keep 56 = .ok (.getfield 26, 3) := by decide +kernel
theorem dX10_keep_59 : decode cX10_keep 59 = .ok (.getfield 91, 3) := by decide +kernel
theorem dX10_keep_62 : decode cX10_keep 62 = .ok (.getfield 95, 3) := by decide +kernel
theorem dX10_keep_65 : decode cX10_keep 65 = .ok (.ireturn, 1) := by decide +kernel
theorem dX10_again_0 : decode cX10_again 0 = .ok (.iload_n 1, 1) := by decide +kernel
theorem dX10_again_1 : decode cX10_again 1 = .ok (.iconst 2, 1) := by decide +kernel
theorem dX10_again_2 : decode cX10_again 2 = .ok (.invokestatic 128, 3) := by decide +kernel
theorem dX10_again_5 : decode cX10_again 5 = .ok (.ifCond .ne 5, 3) := by decide +kernel
theorem dX10_again_8 : decode cX10_again 8 = .ok (.iconst (-1), 1) := by decide +kernel
theorem dX10_again_9 : decode cX10_again 9 = .ok (.ireturn, 1) := by decide +kernel
theorem dX10_again_10 : decode cX10_again 10 = .ok (.aload_n 0, 1) := by decide +kernel
theorem dX10_again_11 : decode cX10_again 11 = .ok (.getfield 61, 3) := by decide +kernel
theorem dX10_again_14 : decode cX10_again 14 = .ok (.iload_n 1, 1) := by decide +kernel
theorem dX10_again_15 : decode cX10_again 15 = .ok (.aaload, 1) := by decide +kernel
theorem dX10_again_16 : decode cX10_again 16 = .ok (.getfield 87, 3) := by decide +kernel
theorem dX10_again_19 : decode cX10_again 19 = .ok (.ifCond .ne 6, 3) := by decide +kernel
theorem dX10_again_22 : decode cX10_again 22 = .ok (.bipush (-3), 2) := by decide +kernel
theorem dX10_again_24 : decode cX10_again 24 = .ok (.ireturn, 1) := by decide +kernel
theorem dX10_again_25 : decode cX10_again 25 = .ok (.aload_n 0, 1) := by decide +kernel
theorem dX10_again_26 : decode cX10_again 26 = .ok (.getfield 26, 3) := by decide +kernel
theorem dX10_again_29 : decode cX10_again 29 = .ok (.getfield 91, 3) := by decide +kernel
theorem dX10_again_32 : decode cX10_again 32 = .ok (.aload_n 0, 1) := by decide +kernel
theorem dX10_again_33 : decode cX10_again 33 = .ok (.getfield 61, 3) := by decide +kernel
theorem dX10_again_36 : decode cX10_again 36 = .ok (.iload_n 1, 1) := by decide +kernel
theorem dX10_again_37 : decode cX10_again 37 = .ok (.aaload, 1) := by decide +kernel
theorem dX10_again_38 : decode cX10_again 38 = .ok (.getfield 230, 3) := by decide +kernel
theorem dX10_again_41 : decode cX10_again 41 = .ok (.invokevirtual 231, 3) := by decide +kernel
theorem dX10_again_44 : decode cX10_again 44 = .ok (.aload_n 0, 1) := by decide +kernel
theorem dX10_again_45 : decode cX10_again 45 = .ok (.getfield 47, 3) := by decide +kernel
theorem dX10_again_48 : decode cX10_again 48 = .ok (.aload_n 0, 1) := by decide +kernel
theorem dX10_again_49 : decode cX10_again 49 = .ok (.getfield 61, 3) := by decide +kernel
theorem dX10_again_52 : decode cX10_again 52 = .ok (.iload_n 1, 1) := by decide +kernel
theorem dX10_again_53 : decode cX10_again 53 = .ok (.aaload, 1) := by decide +kernel
theorem dX10_again_54 : decode cX10_again 54 = .ok (.getfield 233, 3) := by decide +kernel
theorem dX10_again_57 : decode cX10_again 57 = .ok (.invokevirtual 234, 3) := by decide +kernel
theorem dX10_again_60 : decode cX10_again 60 = .ok (.aload_n 0, 1) := by decide +kernel
theorem dX10_again_61 : decode cX10_again 61 = .ok (.getfield 33, 3) := by decide +kernel
theorem dX10_again_64 : decode cX10_again 64 = .ok (.invokevirtual 84, 3) := by decide +kernel
theorem dX10_again_67 : decode cX10_again 67 = .ok (.aload_n 0, 1) := by decide +kernel
theorem dX10_again_68 : decode cX10_again 68 = .ok (.getfield 26, 3) := by decide +kernel
theorem dX10_again_71 : decode cX10_again 71 = .ok (.getfield 91, 3) := by decide +kernel
theorem dX10_again_74 : decode cX10_again 74 = .ok (.getfield 95, 3) := by decide +kernel
theorem dX10_again_77 : decode cX10_again 77 = .ok (.ireturn, 1) := by decide +kernel
theorem dX10_count_0 : decode cX10_count 0 = .ok (.iload_n 1, 1) := by decide +kernel
theorem dX10_count_1 : decode cX10_count 1 = .ok (.tableswitch 126 0 7 #[47, 55, 66, 77, 88, 96, 104, 115], 47) := by decide +kernel
theorem dX10_count_48 : decode cX10_count 48 = .ok (.aload_n 0, 1) := by decide +kernel
theorem dX10_count_49 : decode cX10_count 49 = .ok (.getfield 10, 3) := by decide +kernel
theorem dX10_count_52 : decode cX10_count 52 = .ok (.getfield 65, 3) := by decide +kernel
theorem dX10_count_55 : decode cX10_count 55 = .ok (.ireturn, 1) := by decide +kernel
theorem dX10_count_56 : decode cX10_count 56 = .ok (.aload_n 0, 1) := by decide +kernel
theorem dX10_count_57 : decode cX10_count 57 = .ok (.getfield 26, 3) := by decide +kernel
theorem dX10_count_60 : decode cX10_count 60 = .ok (.getfield 91, 3) := by decide +kernel
theorem dX10_count_63 : decode cX10_count 63 = .ok (.getfield 95, 3) := by decide +kernel
theorem dX10_count_66 : decode cX10_count 66 = .ok (.ireturn, 1) := by decide +kernel
theorem dX10_count_67 : decode cX10_count 67 = .ok (.aload_n 0, 1) := by decide +kernel
theorem dX10_count_68 : decode cX10_count 68 = .ok (.getfield 26, 3) := by decide +kernel
theorem dX10_count_71 : decode cX10_count 71 = .ok (.getfield 119, 3) := by decide +kernel
theorem dX10_count_74 : decode cX10_count 74 = .ok (.getfield 236, 3) := by decide +kernel
theorem dX10_count_77 : decode cX10_count 77 = .ok (.ireturn, 1) := by decide +kernel
theorem dX10_count_78 : decode cX10_count 78 = .ok (.aload_n 0, 1) := by decide +kernel
theorem dX10_count_79 : decode cX10_count 79 = .ok (.getfield 26, 3) := by decide +kernel
theorem dX10_count_82 : decode cX10_count 82 = .ok (.getfield 91, 3) := by decide +kernel
theorem dX10_count_85 : decode cX10_count 85 = .ok (.invokevirtual 193, 3) := by decide +kernel
theorem dX10_count_88 : decode cX10_count 88 = .ok (.ireturn, 1) := by decide +kernel
theorem dX10_count_89 : decode cX10_count 89 = .ok (.aload_n 0, 1) := by decide +kernel
theorem dX10_count_90 : decode cX10_count 90 = .ok (.getfield 47, 3) := by decide +kernel
theorem dX10_count_93 : decode cX10_count 93 = .ok (.getfield 203, 3) := by decide +kernel
theorem dX10_count_96 : decode cX10_count 96 = .ok (.ireturn, 1) := by decide +kernel
theorem dX10_count_97 : decode cX10_count 97 = .ok (.aload_n 0, 1) := by decide +kernel
theorem dX10_count_98 : decode cX10_count 98 = .ok (.getfield 33, 3) := by decide +kernel
theorem dX10_count_101 : decode cX10_count 101 = .ok (.getfield 158, 3) := by decide +kernel
theorem dX10_count_104 : decode cX10_count 104 = .ok (.ireturn, 1) := by decide +kernel
theorem dX10_count_105 : decode cX10_count 105 = .ok (.aload_n 0, 1) := by decide +kernel
theorem dX10_count_106 : decode cX10_count 106 = .ok (.getfield 26, 3) := by decide +kernel
theorem dX10_count_109 : decode cX10_count 109 = .ok (.getfield 119, 3) := by decide +kernel
theorem dX10_count_112 : decode cX10_count 112 = .ok (.getfield 239, 3) := by decide +kernel
theorem dX10_count_115 : decode cX10_count 115 = .ok (.ireturn, 1) := by decide +kernel
theorem dX10_count_116 : decode cX10_count 116 = .ok (.aload_n 0, 1) := by decide +kernel
theorem dX10_count_117 : decode cX10_count 117 = .ok (.getfield 26, 3) := by decide +kernel
theorem dX10_count_120 : decode cX10_count 120 = .ok (.getfield 119, 3) := by decide +kernel
theorem dX10_count_123 : decode cX10_count 123 = .ok (.getfield 242, 3) := by decide +kernel
theorem dX10_count_126 : decode cX10_count 126 = .ok (.ireturn, 1) := by decide +kernel
theorem dX10_count_127 : decode cX10_count 127 = .ok (.bipush (-2), 2) := by decide +kernel
theorem dX10_count_129 : decode cX10_count 129 = .ok (.ireturn, 1) := by decide +kernel
theorem dX10_countByRule_0 : decode cX10_countByRule 0 = .ok (.aload_n 0, 1) := by decide +kernel
theorem dX10_countByRule_1 : decode cX10_countByRule 1 = .ok (.getfield 40, 3) := by decide +kernel
theorem dX10_countByRule_4 : decode cX10_countByRule 4 = .ok (.aload_n 0, 1) := by decide +kernel
theorem dX10_countByRule_5 : decode cX10_countByRule 5 = .ok (.getfield 26, 3) := by decide +kernel
theorem dX10_countByRule_8 : decode cX10_countByRule 8 = .ok (.iload_n 1, 1) := by decide +kernel
theorem dX10_countByRule_9 : decode cX10_countByRule 9 = .ok (.iload_n 2, 1) := by decide +kernel
theorem dX10_countByRule_10 : decode cX10_countByRule 10 = .ok (.invokevirtual 173, 3) := by decide +kernel
theorem dX10_countByRule_13 : decode cX10_countByRule 13 = .ok (.aload_n 0, 1) := by decide +kernel
theorem dX10_countByRule_14 : decode cX10_countByRule 14 = .ok (.getfield 40, 3) := by decide +kernel
theorem dX10_countByRule_17 : decode cX10_countByRule 17 = .ok (.getstatic 245, 3) := by decide +kernel
theorem dX10_countByRule_20 : decode cX10_countByRule 20 = .ok (.iconst 0, 1) := by decide +kernel
theorem dX10_countByRule_21 : decode cX10_countByRule 21 = .ok (.iaload, 1) := by decide +kernel
theorem dX10_countByRule_22 : decode cX10_countByRule 22 = .ok (.iload_n 2, 1) := by decide +kernel
theorem dX10_countByRule_23 : decode cX10_countByRule 23 = .ok (.invokestatic 166, 3) := by decide +kernel
theorem dX10_countByRule_26 : decode cX10_countByRule 26 = .ok (.invokevirtual 248, 3) := by decide +kernel
theorem dX10_countByRule_29 : decode cX10_countByRule 29 = .ok (.ireturn, 1) := by decide +kernel
theorem dX10_isBelow_0 : decode cX10_isBelow 0 = .ok (.iload_n 0, 1) := by decide +kernel
theorem dX10_isBelow_1 : decode cX10_isBelow 1 = .ok (.ifCond .lt 12, 3) := by decide +kernel
theorem dX10_isBelow_4 : decode cX10_isBelow 4 = .ok (.iload_n 0, 1) := by decide +kernel
theorem dX10_isBelow_5 : decode cX10_isBelow 5 = .ok (.iload_n 1, 1) := by decide +kernel
theorem dX10_isBelow_6 : decode cX10_isBelow 6 = .ok (.if_icmp .ge 7, 3) := by decide +kernel
theorem dX10_isBelow_9 : decode cX10_isBelow 9 = .ok (.iconst 1, 1) := by decide +kernel
theorem dX10_isBelow_10 : decode cX10_isBelow 10 = .ok (.goto 4, 3) := by decide +kernel
theorem dX10_isBelow_13 : decode cX10_isBelow 13 = .ok (.iconst 0, 1) := by decide +kernel
theorem dX10_isBelow_14 : decode cX10_isBelow 14 = .ok (.ireturn, 1) := by decide +kernel
theorem dX10_isMinute_0 : decode cX10_isMinute 0 = .ok (.iload_n 0, 1) := by decide +kernel
theorem dX10_isMinute_1 : decode cX10_isMinute 1 = .ok (.bipush 16, 2) := by decide +kernel
theorem dX10_isMinute_3 : decode cX10_isMinute 3 = .ok (.invokestatic 128, 3) := by decide +kernel
theorem dX10_isMinute_6 : decode cX10_isMinute 6 = .ok (.ireturn, 1) := by decide +kernel
theorem dX10_isCell_0 : decode cX10_isCell 0 = .ok (.iload_n 0, 1) := by decide +kernel
theorem dX10_isCell_1 : decode cX10_isCell 1 = .ok (.bipush 10, 2) := by decide +kernel
theorem dX10_isCell_3 : decode cX10_isCell 3 = .ok (.invokestatic 128, 3) := by decide +kernel
theorem dX10_isCell_6 : decode cX10_isCell 6 = .ok (.ifCond .eq 16, 3) := by decide +kernel
theorem dX10_isCell_9 : decode cX10_isCell 9 = .ok (.iload_n 1, 1) := by decide +kernel
theorem dX10_isCell_10 : decode cX10_isCell 10 = .ok (.bipush 6, 2) := by decide +kernel
theorem dX10_isCell_12 : decode cX10_isCell 12 = .ok (.invokestatic 128, 3) := by decide +kernel
theorem dX10_isCell_15 : decode cX10_isCell 15 = .ok (.ifCond .eq 7, 3) := by decide +kernel
theorem dX10_isCell_18 : decode cX10_isCell 18 = .ok (.iconst 1, 1) := by decide +kernel
theorem dX10_isCell_19 : decode cX10_isCell 19 = .ok (.goto 4, 3) := by decide +kernel
theorem dX10_isCell_22 : decode cX10_isCell 22 = .ok (.iconst 0, 1) := by decide +kernel
theorem dX10_isCell_23 : decode cX10_isCell 23 = .ok (.ireturn, 1) := by decide +kernel
theorem dX10_lengthOfShadow_0 : decode cX10_lengthOfShadow 0 = .ok (.iload_n 0, 1) := by decide +kernel
theorem dX10_lengthOfShadow_1 : decode cX10_lengthOfShadow 1 = .ok (.iload_n 1, 1) := by decide +kernel
theorem dX10_lengthOfShadow_2 : decode cX10_lengthOfShadow 2 = .ok (.bipush 8, 2) := by decide +kernel
theorem dX10_lengthOfShadow_4 : decode cX10_lengthOfShadow 4 = .ok (.isub, 1) := by decide +kernel
theorem dX10_lengthOfShadow_5 : decode cX10_lengthOfShadow 5 = .ok (.invokestatic 150, 3) := by decide +kernel
theorem dX10_lengthOfShadow_8 : decode cX10_lengthOfShadow 8 = .ok (.imul, 1) := by decide +kernel
theorem dX10_lengthOfShadow_9 : decode cX10_lengthOfShadow 9 = .ok (.iconst 4, 1) := by decide +kernel
theorem dX10_lengthOfShadow_10 : decode cX10_lengthOfShadow 10 = .ok (.idiv, 1) := by decide +kernel
theorem dX10_lengthOfShadow_11 : decode cX10_lengthOfShadow 11 = .ok (.ireturn, 1) := by decide +kernel
theorem dX10_reach_0 : decode cX10_reach 0 = .ok (.iload_n 0, 1) := by decide +kernel
theorem dX10_reach_1 : decode cX10_reach 1 = .ok (.iload_n 2, 1) := by decide +kernel
theorem dX10_reach_2 : decode cX10_reach 2 = .ok (.invokestatic 166, 3) := by decide +kernel
theorem dX10_reach_5 : decode cX10_reach 5 = .ok (.istore_n 3, 1) := by decide +kernel
theorem dX10_reach_6 : decode cX10_reach 6 = .ok (.iload_n 2, 1) := by decide +kernel
theorem dX10_reach_7 : decode cX10_reach 7 = .ok (.bipush 8, 2) := by decide +kernel
theorem dX10_reach_9 : decode cX10_reach 9 = .ok (.if_icmp .ge 15, 3) := by decide +kernel
theorem dX10_reach_12 : decode cX10_reach 12 = .ok (.iload_n 1, 1) := by decide +kernel
theorem dX10_reach_13 : decode cX10_reach 13 = .ok (.iload_n 3, 1) := by decide +kernel
theorem dX10_reach_14 : decode cX10_reach 14 = .ok (.isub, 1) := by decide +kernel
theorem dX10_reach_15 : decode cX10_reach 15 = .ok (.iload_n 1, 1) := by decide +kernel
theorem dX10_reach_16 : decode cX10_reach 16 = .ok (.iconst 1, 1) := by decide +kernel
theorem dX10_reach_17 : decode cX10_reach 17 = .ok (.isub, 1) := by decide +kernel
theorem dX10_reach_18 : decode cX10_reach 18 = .ok (.invokestatic 251, 3) := by decide +kernel
theorem dX10_reach_21 : decode cX10_reach 21 = .ok (.goto 12, 3) := by decide +kernel
theorem dX10_reach_24 : decode cX10_reach 24 = .ok (.iload_n 1, 1) := by decide +kernel
theorem dX10_reach_25 : decode cX10_reach 25 = .ok (.iconst 1, 1) := by decide +kernel
theorem dX10_reach_26 : decode cX10_reach 26 = .ok (.iadd, 1) := by decide +kernel
theorem dX10_reach_27 : decode cX10_reach 27 = .ok (.iload_n 1, 1) := by decide +kernel
theorem dX10_reach_28 : decode cX10_reach 28 = .ok (.iload_n 3, 1) := by decide +kernel
theorem dX10_reach_29 : decode cX10_reach 29 = .ok (.iadd, 1) := by decide +kernel
theorem dX10_reach_30 : decode cX10_reach 30 = .ok (.invokestatic 251, 3) := by decide +kernel
theorem dX10_reach_33 : decode cX10_reach 33 = .ok (.ireturn, 1) := by decide +kernel
theorem dX10_columnBits_0 : decode cX10_columnBits 0 = .ok (.iload_n 0, 1) := by decide +kernel
theorem dX10_columnBits_1 : decode cX10_columnBits 1 = .ok (.iconst 0, 1) := by decide +kernel
theorem dX10_columnBits_2 : decode cX10_columnBits 2 = .ok (.invokestatic 254, 3) := by decide +kernel
theorem dX10_columnBits_5 : decode cX10_columnBits 5 = .ok (.istore_n 2, 1) := by decide +kernel
theorem dX10_columnBits_6 : decode cX10_columnBits 6 = .ok (.iload_n 1, 1) := by decide +kernel
theorem dX10_columnBits_7 : decode cX10_columnBits 7 = .ok (.bipush 9, 2) := by decide +kernel
theorem dX10_columnBits_9 : decode cX10_columnBits 9 = .ok (.invokestatic 257, 3) := by decide +kernel
theorem dX10_columnBits_12 : decode cX10_columnBits 12 = .ok (.istore_n 3, 1) := by decide +kernel
theorem dX10_columnBits_13 : decode cX10_columnBits 13 = .ok (.iload_n 2, 1) := by decide +kernel
theorem dX10_columnBits_14 : decode cX10_columnBits 14 = .ok (.iload_n 3, 1) := by decide +kernel
theorem dX10_columnBits_15 : decode cX10_columnBits 15 = .ok (.if_icmp .le 7, 3) := by decide +kernel
theorem dX10_columnBits_18 : decode cX10_columnBits 18 = .ok (.iconst 0, 1) := by decide +kernel
theorem dX10_columnBits_19 : decode cX10_columnBits 19 = .ok (.goto 12, 3) := by decide +kernel
theorem dX10_columnBits_22 : decode cX10_columnBits 22 = .ok (.iconst 1, 1) := by decide +kernel
theorem dX10_columnBits_23 : decode cX10_columnBits 23 = .ok (.iload_n 3, 1) := by decide +kernel
theorem dX10_columnBits_24 : decode cX10_columnBits 24 = .ok (.iconst 1, 1) := by decide +kernel
theorem dX10_columnBits_25 : decode cX10_columnBits 25 = .ok (.iadd, 1) := by decide +kernel
theorem dX10_columnBits_26 : decode cX10_columnBits 26 = .ok (.ishl, 1) := by decide +kernel
theorem dX10_columnBits_27 : decode cX10_columnBits 27 = .ok (.iconst 1, 1) := by decide +kernel
theorem dX10_columnBits_28 : decode cX10_columnBits 28 = .ok (.iload_n 2, 1) := by decide +kernel
theorem dX10_columnBits_29 : decode cX10_columnBits 29 = .ok (.ishl, 1) := by decide +kernel
theorem dX10_columnBits_30 : decode cX10_columnBits 30 = .ok (.isub, 1) := by decide +kernel
theorem dX10_columnBits_31 : decode cX10_columnBits 31 = .ok (.ireturn, 1) := by decide +kernel
theorem dX11_init_0 : decode cX11_init 0 = .ok (.aload_n 0, 1) := by decide +kernel
theorem dX11_init_1 : decode cX11_init 1 = .ok (.invokespecial 1, 3) := by decide +kernel
theorem dX11_init_4 : decode cX11_init 4 = .ok (.aload_n 0, 1) := by decide +kernel
theorem dX11_init_5 : decode cX11_init 5 = .ok (.bipush 24, 2) := by decide +kernel
theorem dX11_init_7 : decode cX11_init 7 = .ok (.newarray .int, 2) := by decide +kernel
theorem dX11_init_9 : decode cX11_init 9 = .ok (.putfield 7, 3) := by decide +kernel
theorem dX11_init_12 : decode cX11_init 12 = .ok (.aload_n 0, 1) := by decide +kernel
theorem dX11_init_13 : decode cX11_init 13 = .ok (.bipush 12, 2) := by decide +kernel
theorem dX11_init_15 : decode cX11_init 15 = .ok (.newarray .int, 2) := by decide +kernel
theorem dX11_init_17 : decode cX11_init 17 = .ok (.putfield 13, 3) := by decide +kernel
theorem dX11_init_20 : decode cX11_init 20 = .ok (.aload_n 0, 1) := by decide +kernel
theorem dX11_init_21 : decode cX11_init 21 = .ok (.bipush 16, 2) := by decide +kernel
theorem dX11_init_23 : decode cX11_init 23 = .ok (.newarray .int, 2) := by decide +kernel
theorem dX11_init_25 : decode cX11_init 25 = .ok (.putfield 16, 3) := by decide +kernel
theorem dX11_init_28 : decode cX11_init 28 = .ok (.aload_n 0, 1) := by decide +kernel
theorem dX11_init_29 : decode cX11_init 29 = .ok (.bipush 6, 2) := by decide +kernel
theorem dX11_init_31 : decode cX11_init 31 = .ok (.newarray .int, 2) := by decide +kernel
theorem dX11_init_33 : decode cX11_init 33 = .ok (.putfield 19, 3) := by decide +kernel
theorem dX11_init_36 : decode cX11_init 36 = .ok (.aload_n 0, 1) := by decide +kernel
theorem dX11_init_37 : decode cX11_init 37 = .ok (.bipush 24, 2) := by decide +kernel
theorem dX11_init_39 : decode cX11_init 39 = .ok (.newarray .int, 2) := by decide +kernel
theorem dX11_init_41 : decode cX11_init 41 = .ok (.putfield 22, 3) := by decide +kernel
theorem dX11_init_44 : decode cX11_init 44 = .ok (.aload_n 0, 1) := by decide +kernel
theorem dX11_init_45 : decode cX11_init 45 = .ok (.bipush 12, 2) := by decide +kernel
theorem dX11_init_47 : decode cX11_init 47 = .ok (.newarray .int, 2) := by decide +kernel
theorem dX11_init_49 : decode cX11_init 49 = .ok (.putfield 25, 3) := by decide +kernel
theorem dX11_init_52 : decode cX11_init 52 = .ok (.aload_n 0, 1) := by decide +kernel
theorem dX11_init_53 : decode cX11_init 53 = .ok (.bipush 16, 2) := by decide +kernel
theorem dX11_init_55 : decode cX11_init 55 = .ok (.newarray .int, 2) := by decide +kernel
theorem dX11_init_57 : decode cX11_init 57 = .ok (.putfield 28, 3) := by decide +kernel
theorem dX11_init_60 : decode cX11_init 60 = .ok (.aload_n 0, 1) := by decide +kernel
theorem dX11_init_61 : decode cX11_init 61 = .ok (.bipush 6, 2) := by decide +kernel
theorem dX11_init_63 : decode cX11_init 63 = .ok (.newarray .int, 2) := by decide +kernel
theorem dX11_init_65 : decode cX11_init 65 = .ok (.putfield 31, 3) := by decide +kernel
theorem dX11_init_68 : decode cX11_init 68 = .ok (.aload_n 0, 1) := by decide +kernel
theorem dX11_init_69 : decode cX11_init 69 = .ok (.bipush 92, 2) := by decide +kernel
theorem dX11_init_71 : decode cX11_init 71 = .ok (.newarray .int, 2) := by decide +kernel
theorem dX11_init_73 : decode cX11_init 73 = .ok (.putfield 34, 3) := by decide +kernel
theorem dX11_init_76 : decode cX11_init 76 = .ok (.aload_n 0, 1) := by decide +kernel
theorem dX11_init_77 : decode cX11_init 77 = .ok (.sipush 400, 3) := by decide +kernel
theorem dX11_init_80 : decode cX11_init 80 = .ok (.newarray .int, 2) := by decide +kernel
theorem dX11_init_82 : decode cX11_init 82 = .ok (.putfield 37, 3) := by decide +kernel
theorem dX11_init_85 : decode cX11_init 85 = .ok (.aload_n 0, 1) := by decide +kernel
theorem dX11_init_86 : decode cX11_init 86 = .ok (.bipush 90, 2) := by decide +kernel
theorem dX11_init_88 : decode cX11_init 88 = .ok (.newarray .int, 2) := by decide +kernel
theorem dX11_init_90 : decode cX11_init 90 = .ok (.putfield 40, 3) := by decide +kernel
theorem dX11_init_93 : decode cX11_init 93 = .ok (.aload_n 0, 1) := by decide +kernel
theorem dX11_init_94 : decode cX11_init 94 = .ok (.bipush 6, 2) := by decide +kernel
theorem dX11_init_96 : decode cX11_init 96 = .ok (.newarray .int, 2) := by decide +kernel
theorem dX11_init_98 : decode cX11_init 98 = .ok (.putfield 43, 3) := by decide +kernel
theorem dX11_init_101 : decode cX11_init 101 = .ok (.aload_n 0, 1) := by decide +kernel
theorem dX11_init_102 : decode cX11_init 102 = .ok (.bipush 6, 2) := by decide +kernel
theorem dX11_init_104 : decode cX11_init 104 = .ok (.newarray .int, 2) := by decide +kernel
theorem dX11_init_106 : decode cX11_init 106 = .ok (.putfield 46, 3) := by decide +kernel
theorem dX11_init_109 : decode cX11_init 109 = .ok (.aload_n 0, 1) := by decide +kernel
theorem dX11_init_110 : decode cX11_init 110 = .ok (.sipush 480, 3) := by decide +kernel
theorem dX11_init_113 : decode cX11_init 113 = .ok (.newarray .int, 2) := by decide +kernel
theorem dX11_init_115 : decode cX11_init 115 = .ok (.putfield 49, 3) := by decide +kernel
theorem dX11_init_118 : decode cX11_init 118 = .ok (.aload_n 0, 1) := by decide +kernel
theorem dX11_init_119 : decode cX11_init 119 = .ok (.sipush 16384, 3) := by decide +kernel
theorem dX11_init_122 : decode cX11_init 122 = .ok (.newarray .boolean, 2) := by decide +kernel
theorem dX11_init_124 : decode cX11_init 124 = .ok (.putfield 52, 3) := by decide +kernel
theorem dX11_init_127 : decode cX11_init 127 = .ok (.aload_n 0, 1) := by decide +kernel
theorem dX11_init_128 : decode cX11_init 128 = .ok (.iconst 2, 1) := by decide +kernel
theorem dX11_init_129 : decode cX11_init 129 = .ok (.newarray .boolean, 2) := by decide +kernel
theorem dX11_init_131 : decode cX11_init 131 = .ok (.putfield 56, 3) := by decide +kernel
theorem dX11_init_134 : decode cX11_init 134 = .ok (.aload_n 0, 1) := by decide +kernel
theorem dX11_init_135 : decode cX11_init 135 = .ok (.bipush 50, 2) := by decide +kernel
theorem dX11_init_137 : decode cX11_init 137 = .ok (.newarray .int, 2) := by decide +kernel
theorem dX11_init_139 : decode cX11_init 139 = .ok (.putfield 59, 3) := by decide +kernel
theorem dX11_init_142 : decode cX11_init 142 = .ok (.aload_n 0, 1) := by decide +kernel
theorem dX11_init_143 : decode cX11_init 143 = .ok (.bipush 12, 2) := by decide +kernel
theorem dX11_init_145 : decode cX11_init 145 = .ok (.newarray .int, 2) := by decide +kernel
theorem dX11_init_147 : decode cX11_init 147 = .ok (.putfield 62, 3) := by decide +kernel
theorem dX11_init_150 : decode cX11_init 150 = .ok (.aload_n 0, 1) := by decide +kernel
theorem dX11_init_151 : decode cX11_init 151 = .ok (.bipush 12, 2) := by decide +kernel
theorem dX11_init_153 : decode cX11_init 153 = .ok (.newarray .int, 2) := by decide +kernel
theorem dX11_init_155 : decode cX11_init 155 = .ok (.putfield 65, 3) := by decide +kernel
theorem dX11_init_158 : decode cX11_init 158 = .ok (.aload_n 0, 1) := by decide +kernel
theorem dX11_init_159 : decode cX11_init 159 = .ok (.iconst 2, 1) := by decide +kernel
theorem dX11_init_160 : decode cX11_init 160 = .ok (.newarray .int, 2) := by decide +kernel
theorem dX11_init_162 : decode cX11_init 162 = .ok (.putfield 68, 3) := by decide +kernel
theorem dX11_init_165 : decode cX11_init 165 = .ok (.aload_n 0, 1) := by decide +kernel
theorem dX11_init_166 : decode cX11_init 166 = .ok (.iconst 0, 1) := by decide +kernel
theorem dX11_init_167 : decode cX11_init 167 = .ok (.putfield 71, 3) := by decide +kernel
theorem dX11_init_170 : decode cX11_init 170 = .ok (.return_, 1) := by decide +kernel
theorem dX11_in_0 : decode cX11_in 0 = .ok (.lload_n 0, 1) := by decide +kernel
theorem dX11_in_1 : decode cX11_in 1 = .ok (.lload_n 2, 1) := by decide +kernel
theorem dX11_in_2 : decode cX11_in 2 = .ok (.lcmp, 1) := by decide +kernel
theorem dX11_in_3 : decode cX11_in 3 = .ok (.ifCond .lt 14, 3) := by decide +kernel
theorem dX11_in_6 : decode cX11_in 6 = .ok (.lload_n 0, 1) := by decide +kernel
theorem dX11_in_7 : decode cX11_in 7 = .ok (.lload 4, 2) := by decide +kernel
theorem dX11_in_9 : decode cX11_in 9 = .ok (.lcmp, 1) := by decide +kernel
theorem dX11_in_10 : decode cX11_in 10 = .ok (.ifCond .gt 7, 3) := by decide +kernel
theorem dX11_in_13 : decode cX11_in 13 = .ok (.iconst 1, 1) := by decide +kernel
theorem dX11_in_14 : decode cX11_in 14 = .ok (.goto 4, 3) := by decide +kernel
theorem dX11_in_17 : decode cX11_in 17 = .ok (.iconst 0, 1) := by decide +kernel
theorem dX11_in_18 : decode cX11_in 18 = .ok (.ireturn, 1) := by decide +kernel
theorem dX11_write_0 : decode cX11_write 0 = .ok (.iload_n 1, 1) := by decide +kernel
theorem dX11_write_1 : decode cX11_write 1 = .ok (.i2l, 1) := by decide +kernel
theorem dX11_write_2 : decode cX11_write 2 = .ok (.lconst 1, 1) := by decide +kernel
theorem dX11_write_3 : decode cX11_write 3 = .ok (.ldc2_w 75, 3) := by decide +kernel
theorem dX11_write_6 : decode cX11_write 6 = .ok (.invokestatic 77, 3) := by decide +kernel
theorem dX11_write_9 : decode cX11_write 9 = .ok (.ifCond .ne 6, 3) := by decide +kernel
theorem dX11_write_12 : decode cX11_write 12 = .ok (.bipush (-2), 2) := by decide +kernel
theorem dX11_write_14 : decode cX11_write 14 = .ok (.ireturn, 1) := by decide +kernel
theorem dX11_write_15 : decode cX11_write 15 = .ok (.aload_n 0, 1) := by decide +kernel
theorem dX11_write_16 : decode cX11_write 16 = .ok (.getfield 81, 3) := by decide +kernel
theorem dX11_write_19 : decode cX11_write 19 = .ok (.iload_n 1, 1) := by decide +kernel
theorem dX11_write_20 : decode cX11_write 20 = .ok (.iadd, 1) := by decide +kernel
theorem dX11_write_21 : decode cX11_write 21 = .ok (.bipush 92, 2) := by decide +kernel
theorem dX11_write_23 : decode cX11_write 23 = .ok (.if_icmp .le 6, 3) := by decide +kernel
theorem dX11_write_26 : decode cX11_write 26 = .ok (.bipush (-4), 2) := by decide +kernel
theorem dX11_write_28 : decode cX11_write 28 = .ok (.ireturn, 1) := by decide +kernel
theorem dX11_write_29 : decode cX11_write 29 = .ok (.iload_n 1, 1) := by decide +kernel
theorem dX11_write_30 : decode cX11_write 30 = .ok (.iconst 1, 1) := by decide +kernel
theorem dX11_write_31 : decode cX11_write 31 = .ok (.isub, 1) := by decide +kernel
theorem dX11_write_32 : decode cX11_write 32 = .ok (.istore 4, 2) := by decide +kernel
theorem dX11_write_34 : decode cX11_write 34 = .ok (.iload 4, 2) := by decide +kernel
theorem dX11_write_36 : decode cX11_write 36 = .ok (.ifCond .lt 40, 3) := by decide +kernel
theorem dX11_write_39 : decode cX11_write 39 = .ok (.aload_n 0, 1) := by decide +kernel
theorem dX11_write_40 : decode cX11_write 40 = .ok (.getfield 34, 3) := by decide +kernel
theorem dX11_write_43 : decode cX11_write 43 = .ok (.aload_n 0, 1) := by decide +kernel
theorem dX11_write_44 : decode cX11_write 44 = .ok (.getfield 81, 3) := by decide +kernel
theorem dX11_write_47 : decode cX11_write 47 = .ok (.lload_n 2, 1) := by decide +kernel
theorem dX11_write_48 : decode cX11_write 48 = .ok (.bipush 8, 2) := by decide +kernel
theorem dX11_write_50 : decode cX11_write 50 = .ok (.iload 4, 2) := by decide +kernel
theorem dX11_write_52 : decode cX11_write 52 = .ok (.imul, 1) := by decide +kernel
theorem dX11_write_53 : decode cX11_write 53 = .ok (.lshr, 1) := by decide +kernel
theorem dX11_write_54 : decode cX11_write 54 = .ok (.ldc2_w 84, 3) := by decide +kernel
theorem dX11_write_57 : decode cX11_write 57 = .ok (.land, 1) := by decide +kernel
theorem dX11_write_58 : decode cX11_write 58 = .ok (.l2i, 1) := by decide +kernel
theorem dX11_write_59 : decode cX11_write 59 = .ok (.iastore, 1) := by decide +kernel
theorem dX11_write_60 : decode cX11_write 60 = .ok (.aload_n 0, 1) := by decide +kernel
theorem dX11_write_61 : decode cX11_write 61 = .ok (.dup, 1) := by decide +kernel
theorem dX11_write_62 : decode cX11_write 62 = .ok (.getfield 81, 3) := by decide +kernel
theorem dX11_write_65 : decode cX11_write 65 = .ok (.iconst 1, 1) := by decide +kernel
theorem dX11_write_66 : decode cX11_write 66 = .ok (.iadd, 1) := by decide +kernel
theorem dX11_write_67 : decode cX11_write 67 = .ok (.putfield 81, 3) := by decide +kernel
theorem dX11_write_70 : decode cX11_write 70 = .ok (.iinc 4 (-1), 3) := by decide +kernel
theorem dX11_write_73 : decode cX11_write 73 = .ok (.goto (-39), 3) := by decide +kernel
theorem dX11_write_76 : decode cX11_write 76 = .ok (.aload_n 0, 1) := by decide +kernel
theorem dX11_write_77 : decode cX11_write 77 = .ok (.getfield 81, 3) := by decide +kernel
theorem dX11_write_80 : decode cX11_write 80 = .ok (.ireturn, 1) := by decide +kernel
theorem dX11_wipe_0 : decode cX11_wipe 0 = .ok (.aload_n 0, 1) := by decide +kernel
theorem dX11_wipe_1 : decode cX11_wipe 1 = .ok (.getfield 81, 3) := by decide +kernel
theorem dX11_wipe_4 : decode cX11_wipe 4 = .ok (.istore_n 1, 1) := by decide +kernel
theorem dX11_wipe_5 : decode cX11_wipe 5 = .ok (.aload_n 0, 1) := by decide +kernel
theorem dX11_wipe_6 : decode cX11_wipe 6 = .ok (.iconst 0, 1) := by decide +kernel
theorem dX11_wipe_7 : decode cX11_wipe 7 = .ok (.putfield 81, 3) := by decide +kernel
theorem dX11_wipe_10 : decode cX11_wipe 10 = .ok (.iload_n 1, 1) := by decide +kernel
theorem dX11_wipe_11 : decode cX11_wipe 11 = .ok (.ireturn, 1) := by decide +kernel
theorem dX11_fail_0 : decode cX11_fail 0 = .ok (.aload_n 0, 1) := by decide +kernel
theorem dX11_fail_1 : decode cX11_fail 1 = .ok (.aload_n 0, 1) := by decide +kernel
theorem dX11_fail_2 : decode cX11_fail 2 = .ok (.getfield 86, 3) := by decide +kernel
theorem dX11_fail_5 : decode cX11_fail 5 = .ok (.bipush (-9), 2) := by decide +kernel
theorem dX11_fail_7 : decode cX11_fail 7 = .ok (.if_icmp .ne 10, 3) := by decide +kernel
theorem dX11_fail_10 : decode cX11_fail 10 = .ok (.aload_n 0, 1) := by decide +kernel
theorem dX11_fail_11 : decode cX11_fail 11 = .ok (.getfield 89, 3) := by decide +kernel
theorem dX11_fail_14 : decode cX11_fail 14 = .ok (.goto 7, 3) := by decide +kernel
theorem dX11_fail_17 : decode cX11_fail 17 = .ok (.aload_n 0, 1) := by decide +kernel
theorem dX11_fail_18 : decode cX11_fail 18 = .ok (.getfield 86, 3) := by decide +kernel
theorem dX11_fail_21 : decode cX11_fail 21 = .ok (.putfield 86, 3) := by decide +kernel
theorem dX11_fail_24 : decode cX11_fail 24 = .ok (.return_, 1) := by decide +kernel
theorem dX11_sign_0 : decode cX11_sign 0 = .ok (.aload_n 0, 1) := by decide +kernel
theorem dX11_sign_1 : decode cX11_sign 1 = .ok (.getfield 86, 3) := by decide +kernel
theorem dX11_sign_4 : decode cX11_sign 4 = .ok (.bipush (-9), 2) := by decide +kernel
theorem dX11_sign_6 : decode cX11_sign 6 = .ok (.if_icmp .ne 26, 3) := by decide +kernel
theorem dX11_sign_9 : decode cX11_sign 9 = .ok (.aload_n 0, 1) := by decide +kernel
theorem dX11_sign_10 : decode cX11_sign 10 = .ok (.getfield 89, 3) := by decide +kernel
theorem dX11_sign_13 : decode cX11_sign 13 = .ok (.aload_n 0, 1) := by decide +kernel
theorem dX11_sign_14 : decode cX11_sign 14 = .ok (.getfield 81, 3) := by decide +kernel
theorem dX11_sign_17 : decode cX11_sign 17 = .ok (.if_icmp .ge 15, 3) := by decide +kernel
theorem dX11_sign_20 : decode cX11_sign 20 = .ok (.aload_n 0, 1) := by decide +kernel
theorem dX11_sign_21 : decode cX11_sign 21 = .ok (.getfield 34, 3) := by decide +kernel
theorem dX11_sign_24 : decode cX11_sign 24 = .ok (.aload_n 0, 1) := by decide +kernel
theorem dX11_sign_25 : decode cX11_sign 25 = .ok (.getfield 89, 3) := by decide +kernel
theorem dX11_sign_28 : decode cX11_sign 28 = .ok (.iaload, 1) := by decide +kernel
theorem dX11_sign_29 : decode cX11_sign 29 = .ok (.goto 4, 3) := by decide +kernel
theorem dX11_sign_32 : decode cX11_sign 32 = .ok (.iconst 0, 1) := by decide +kernel
theorem dX11_sign_33 : decode cX11_sign 33 = .ok (.istore_n 2, 1) := by decide +kernel
theorem dX11_sign_34 : decode cX11_sign 34 = .ok (.iload_n 2, 1) := by decide +kernel
theorem dX11_sign_35 : decode cX11_sign 35 = .ok (.i2l, 1) := by decide +kernel
theorem dX11_sign_36 : decode cX11_sign 36 = .ok (.ldc2_w 92, 3) := by decide +kernel
theorem dX11_sign_39 : decode cX11_sign 39 = .ok (.ldc2_w 94, 3) := by decide +kernel
theorem dX11_sign_42 : decode cX11_sign 42 = .ok (.invokestatic 77, 3) := by decide +kernel
theorem dX11_sign_45 : decode cX11_sign 45 = .ok (.ifCond .eq 10, 3) := by decide +kernel
theorem dX11_sign_48 : decode cX11_sign 48 = .ok (.iload_n 2, 1) := by decide +kernel
theorem dX11_sign_49 : decode cX11_sign 49 = .ok (.bipush 48, 2) := by decide +kernel
theorem dX11_sign_51 : decode cX11_sign 51 = .ok (.isub, 1) := by decide +kernel
theorem dX11_sign_52 : decode cX11_sign 52 = .ok (.goto 25, 3) := by decide +kernel
theorem dX11_sign_55 : decode cX11_sign 55 = .ok (.iload_n 2, 1) := by decide +kernel
theorem dX11_sign_56 : decode cX11_sign 56 = .ok (.i2l, 1) := by decide +kernel
theorem dX11_sign_57 : decode cX11_sign 57 = .ok (.ldc2_w 96, 3) := by decide +kernel
theorem dX11_sign_60 : decode cX11_sign 60 = .ok (.ldc2_w 98, 3) := by decide +kernel
theorem dX11_sign_63 : decode cX11_sign 63 = .ok (.invokestatic 77, 3) := by decide +kernel
theorem dX11_sign_66 : decode cX11_sign 66 = .ok (.ifCond .eq 10, 3) := by decide +kernel
theorem dX11_sign_69 : decode cX11_sign 69 = .ok (.iload_n 2, 1) := by decide +kernel
theorem dX11_sign_70 : decode cX11_sign 70 = .ok (.bipush 87, 2) := by decide +kernel
theorem dX11_sign_72 : decode cX11_sign 72 = .ok (.isub, 1) := by decide +kernel
theorem dX11_sign_73 : decode cX11_sign 73 = .ok (.goto 4, 3) := by decide +kernel
theorem dX11_sign_76 : decode cX11_sign 76 = .ok (.iconst (-1), 1) := by decide +kernel
theorem dX11_sign_77 : decode cX11_sign 77 = .ok (.istore_n 3, 1) := by decide +kernel
theorem dX11_sign_78 : decode cX11_sign 78 = .ok (.iload_n 3, 1) := by decide +kernel
theorem dX11_sign_79 : decode cX11_sign 79 = .ok (.ifCond .lt 11, 3) := by decide +kernel
theorem dX11_sign_82 : decode cX11_sign 82 = .ok (.iload_n 1, 1) := by decide +kernel
theorem dX11_sign_83 : decode cX11_sign 83 = .ok (.iload_n 3, 1) := by decide +kernel
theorem dX11_sign_84 : decode cX11_sign 84 = .ok (.ishr, 1) := by decide +kernel
theorem dX11_sign_85 : decode cX11_sign 85 = .ok (.iconst 1, 1) := by decide +kernel
theorem dX11_sign_86 : decode cX11_sign 86 = .ok (.iand, 1) := by decide +kernel
theorem dX11_sign_87 : decode cX11_sign 87 = .ok (.ifCond .ne 9, 3) := by decide +kernel
theorem dX11_sign_90 : decode cX11_sign 90 = .ok (.aload_n 0, 1) := by decide +kernel
theorem dX11_sign_91 : decode cX11_sign 91 = .ok (.invokevirtual 100, 3) := by decide +kernel
theorem dX11_sign_94 : decode cX11_sign 94 = .ok (.iconst 0, 1) := by decide +kernel
theorem dX11_sign_95 : decode cX11_sign 95 = .ok (.ireturn, 1) := by decide +kernel
theorem dX11_sign_96 : decode cX11_sign 96 = .ok (.aload_n 0, 1) := by decide +kernel
theorem dX11_sign_97 : decode cX11_sign 97 = .ok (.dup, 1) := by decide +kernel
theorem dX11_sign_98 : decode cX11_sign 98 = .ok (.getfield 89, 3) := by decide +kernel
theorem dX11_sign_101 : decode cX11_sign 101 = .ok (.iconst 1, 1) := by decide +kernel
theorem dX11_sign_102 : decode cX11_sign 102 = .ok (.iadd, 1) := by decide +kernel
theorem dX11_sign_103 : decode cX11_sign 103 = .ok (.putfield 89, 3) := by decide +kernel
theorem dX11_sign_106 : decode cX11_sign 106 = .ok (.iload_n 3, 1) := by decide +kernel
theorem dX11_sign_107 : decode cX11_sign 107 = .ok (.ireturn, 1) := by decide +kernel
theorem dX11_bits_0 : decode cX11_bits 0 = .ok (.iconst 1, 1) := by decide +kernel
theorem dX11_bits_1 : decode cX11_bits 1 = .ok (.iload_n 1, 1) := by decide +kernel
theorem dX11_bits_2 : decode cX11_bits 2 = .ok (.iconst 1, 1) := by decide +kernel
theorem dX11_bits_3 : decode cX11_bits 3 = .ok (.iadd, 1) := by decide +kernel
theorem dX11_bits_4 : decode cX11_bits 4 = .ok (.ishl, 1) := by decide +kernel
theorem dX11_bits_5 : decode cX11_bits 5 = .ok (.iconst 1, 1) := by decide +kernel
theorem dX11_bits_6 : decode cX11_bits 6 = .ok (.iload_n 0, 1) := by decide +kernel
theorem dX11_bits_7 : decode cX11_bits 7 = .ok (.ishl, 1) := by decide +kernel
theorem dX11_bits_8 : decode cX11_bits 8 = .ok (.isub, 1) := by decide +kernel
theorem dX11_bits_9 : decode cX11_bits 9 = .ok (.ireturn, 1) := by decide +kernel
theorem dX11_kindOf_0 : decode cX11_kindOf 0 = .ok (.iload_n 0, 1) := by decide +kernel
theorem dX11_kindOf_1 : decode cX11_kindOf 1 = .ok (.tableswitch 107 97 116 #[103, 107, 97, 107, 107, 107, 107, 107, 107, 107, 99, 107, 95, 107, 107, 107, 107, 107, 101, 105], 95) := by decide +kernel
theorem dX11_kindOf_96 : decode cX11_kindOf 96 = .ok (.iconst 0, 1) := by decide +kernel
theorem dX11_kindOf_97 : decode cX11_kindOf 97 = .ok (.ireturn, 1) := by decide +kernel
theorem dX11_kindOf_98 : decode cX11_kindOf 98 = .ok (.iconst 1, 1) := by decide +kernel
theorem dX11_kindOf_99 : decode cX11_kindOf 99 = .ok (.ireturn, 1) := by decide +kernel
theorem dX11_kindOf_100 : decode cX11_kindOf 100 = .ok (.iconst 2, 1) := by decide +kernel
theorem dX11_kindOf_101 : decode cX11_kindOf 101 = .ok (.ireturn, 1) := by decide +kernel
theorem dX11_kindOf_102 : decode cX11_kindOf 102 = .ok (.iconst 3, 1) := by decide +kernel
theorem dX11_kindOf_103 : decode cX11_kindOf 103 = .ok (.ireturn, 1) := by decide +kernel
theorem dX11_kindOf_104 : decode cX11_kindOf 104 = .ok (.iconst 4, 1) := by decide +kernel
theorem dX11_kindOf_105 : decode cX11_kindOf 105 = .ok (.ireturn, 1) := by decide +kernel
theorem dX11_kindOf_106 : decode cX11_kindOf 106 = .ok (.iconst 5, 1) := by decide +kernel
theorem dX11_kindOf_107 : decode cX11_kindOf 107 = .ok (.ireturn, 1) := by decide +kernel
theorem dX11_kindOf_108 : decode cX11_kindOf 108 = .ok (.bipush (-9), 2) := by decide +kernel
theorem dX11_kindOf_110 : decode cX11_kindOf 110 = .ok (.ireturn, 1) := by decide +kernel
theorem dX11_freeRows_0 : decode cX11_freeRows 0 = .ok (.bipush 63, 2) := by decide +kernel
theorem dX11_freeRows_2 : decode cX11_freeRows 2 = .ok (.istore_n 2, 1) := by decide +kernel
theorem dX11_freeRows_3 : decode cX11_freeRows 3 = .ok (.iconst 0, 1) := by decide +kernel
theorem dX11_freeRows_4 : decode cX11_freeRows 4 = .ok (.istore_n 3, 1) := by decide +kernel
theorem dX11_freeRows_5 : decode cX11_freeRows 5 = .ok (.iload_n 3, 1) := by decide +kernel
theorem dX11_freeRows_6 : decode cX11_freeRows 6 = .ok (.aload_n 0, 1) := by decide +kernel
theorem dX11_freeRows_7 : decode cX11_freeRows 7 = .ok (.getfield 103, 3) := by decide +kernel
theorem dX11_freeRows_10 : decode cX11_freeRows 10 = .ok (.if_icmp .ge 44, 3) := by decide +kernel
theorem dX11_freeRows_13 : decode cX11_freeRows 13 = .ok (.iload_n 2, 1) := by decide +kernel
theorem dX11_freeRows_14 : decode cX11_freeRows 14 = .ok (.aload_n 0, 1) := by decide +kernel
theorem dX11_freeRows_15 : decode cX11_freeRows 15 = .ok (.getfield 7, 3) := by decide +kernel
theorem dX11_freeRows_18 : decode cX11_freeRows 18 = .ok (.iconst 3, 1) := by decide +kernel
theorem dX11_freeRows_19 : decode cX11_freeRows 19 = .ok (.iload_n 3, 1) := by decide +kernel
theorem dX11_freeRows_20 : decode cX11_freeRows 20 = .ok (.imul, 1) := by decide +kernel
theorem dX11_freeRows_21 : decode cX11_freeRows 21 = .ok (.iconst 1, 1) := by decide +kernel
theorem dX11_freeRows_22 : decode cX11_freeRows 22 = .ok (.iadd, 1) := by decide +kernel
theorem dX11_freeRows_23 : decode cX11_freeRows 23 = .ok (.iaload, 1) := by decide +kernel
theorem dX11_freeRows_24 : decode cX11_freeRows 24 = .ok (.iload_n 1, 1) := by decide +kernel
theorem dX11_freeRows_25 : decode cX11_freeRows 25 = .ok (.if_icmp .ne 20, 3) := by decide +kernel
theorem dX11_freeRows_28 : decode cX11_freeRows 28 = .ok (.iconst 1, 1) := by decide +kernel
theorem dX11_freeRows_29 : decode cX11_freeRows 29 = .ok (.aload_n 0, 1) := by decide +kernel
theorem dX11_freeRows_30 : decode cX11_freeRows 30 = .ok (.getfield 7, 3) := by decide +kernel
theorem dX11_freeRows_33 : decode cX11_freeRows 33 = .ok (.iconst 3, 1) := by decide +kernel
theorem dX11_freeRows_34 : decode cX11_freeRows 34 = .ok (.iload_n 3, 1) := by decide +kernel
theorem dX11_freeRows_35 : decode cX11_freeRows 35 = .ok (.imul, 1) := by decide +kernel
theorem dX11_freeRows_36 : decode cX11_freeRows 36 = .ok (.iconst 2, 1) := by decide +kernel
theorem dX11_freeRows_37 : decode cX11_freeRows 37 = .ok (.iadd, 1) := by decide +kernel
theorem dX11_freeRows_38 : decode cX11_freeRows 38 = .ok (.iaload, 1) := by decide +kernel
theorem dX11_freeRows_39 : decode cX11_freeRows 39 = .ok (.ishl, 1) := by decide +kernel
theorem dX11_freeRows_40 : decode cX11_freeRows 40 = .ok (.iconst (-1), 1) := by decide +kernel
theorem dX11_freeRows_41 : decode cX11_freeRows 41 = .ok (.ixor, 1) := by decide +kernel
theorem dX11_freeRows_42 : decode cX11_freeRows 42 = .ok (.goto 4, 3) := by decide +kernel
theorem dX11_freeRows_45 : decode cX11_freeRows 45 = .ok (.iconst (-1), 1) := by decide +kernel
theorem dX11_freeRows_46 : decode cX11_freeRows 46 = .ok (.iand, 1) := by decide +kernel
theorem dX11_freeRows_47 : decode cX11_freeRows 47 = .ok (.istore_n 2, 1) := by decide +kernel
theorem dX11_freeRows_48 : decode cX11_freeRows 48 = .ok (.iinc 3 1, 3) := by decide +kernel
theorem dX11_freeRows_51 : decode cX11_freeRows 51 = .ok (.goto (-46), 3) := by decide +kernel
theorem dX11_freeRows_54 : decode cX11_freeRows 54 = .ok (.iload_n 2, 1) := by decide +kernel
theorem dX11_freeRows_55 : decode cX11_freeRows 55 = .ok (.ireturn, 1) := by decide +kernel
theorem dX11_readBodyPart_0 : decode cX11_readBodyPart 0 = .ok (.aload_n 0, 1) := by decide +kernel
theorem dX11_readBodyPart_1 : decode cX11_readBodyPart 1 = .ok (.dup, 1) := by decide +kernel
theorem dX11_readBodyPart_2 : decode cX11_readBodyPart 2 = .ok (.getfield 89, 3) := by decide +kernel
theorem dX11_readBodyPart_5 : decode cX11_readBodyPart 5 = .ok (.iconst 1, 1) := by decide +kernel
theorem dX11_readBodyPart_6 : decode cX11_readBodyPart 6 = .ok (.iadd, 1) := by decide +kernel
theorem dX11_readBodyPart_7 : decode cX11_readBodyPart 7 = .ok (.putfield 89, 3) := by decide +kernel
theorem dX11_readBodyPart_10 : decode cX11_readBodyPart 10 = .ok (.aload_n 0, 1) := by decide +kernel
theorem dX11_readBodyPart_11 : decode cX11_readBodyPart 11 = .ok (.getfield 86, 3) := by decide +kernel
theorem dX11_readBodyPart_14 : decode cX11_readBodyPart 14 = .ok (.bipush (-9), 2) := by decide +kernel
theorem dX11_readBodyPart_16 : decode cX11_readBodyPart 16 = .ok (.if_icmp .ne 29, 3) := by decide +kernel
theorem dX11_readBodyPart_19 : decode cX11_readBodyPart 19 = .ok (.aload_n 0, 1) := by decide +kernel
theorem dX11_readBodyPart_20 : decode cX11_readBodyPart 20 = .ok (.getfield 89, 3) := by decide +kernel
theorem dX11_readBodyPart_23 : decode cX11_readBodyPart 23 = .ok (.aload_n 0, 1) := by decide +kernel
theorem dX11_readBodyPart_24 : decode cX11_readBodyPart 24 = .ok (.getfield 81, 3) := by decide +kernel
theorem dX11_readBodyPart_27 : decode cX11_readBodyPart 27 = .ok (.if_icmp .ge 18, 3) := by decide +kernel
theorem dX11_readBodyPart_30 : decode cX11_readBodyPart 30 = .ok (.aload_n 0, 1) := by decide +kernel
theorem dX11_readBodyPart_31 : decode cX11_readBodyPart 31 = .ok (.getfield 34, 3) := by decide +kernel
theorem dX11_readBodyPart_34 : decode cX11_readBodyPart 34 = .ok (.aload_n 0, 1) := by decide +kernel
theorem dX11_readBodyPart_35 : decode cX11_readBodyPart 35 = .ok (.getfield 89, 3) := by decide +kernel
theorem dX11_readBodyPart_38 : decode cX11_readBodyPart 38 = .ok (.iaload, 1) := by decide +kernel
theorem dX11_readBodyPart_39 : decode cX11_readBodyPart 39 = .ok (.invokestatic 106, 3) := by decide +kernel
theorem dX11_readBodyPart_42 : decode cX11_readBodyPart 42 = .ok (.goto 5, 3) := by decide +kernel
theorem dX11_readBodyPart_45 : decode cX11_readBodyPart 45 = .ok (.bipush (-9), 2) := by decide +kernel
theorem dX11_readBodyPart_47 : decode cX11_readBodyPart 47 = .ok (.istore_n 1, 1) := by decide +kernel
theorem dX11_readBodyPart_48 : decode cX11_readBodyPart 48 = .ok (.iload_n 1, 1) := by decide +kernel
theorem dX11_readBodyPart_49 : decode cX11_readBodyPart 49 = .ok (.bipush (-9), 2) := by decide +kernel
theorem dX11_readBodyPart_51 : decode cX11_readBodyPart 51 = .ok (.if_icmp .ne 8, 3) := by decide +kernel
theorem dX11_readBodyPart_54 : decode cX11_readBodyPart 54 = .ok (.aload_n 0, 1) := by decide +kernel
theorem dX11_readBodyPart_55 : decode cX11_readBodyPart 55 = .ok (.invokevirtual 100, 3) := by decide +kernel
theorem dX11_readBodyPart_58 : decode cX11_readBodyPart 58 = .ok (.return_, 1) := by decide +kernel
theorem dX11_readBodyPart_59 : decode cX11_readBodyPart 59 = .ok (.aload_n 0, 1) := by decide +kernel
theorem dX11_readBodyPart_60 : decode cX11_readBodyPart 60 = .ok (.dup, 1) := by decide +kernel
theorem dX11_readBodyPart_61 : decode cX11_readBodyPart 61 = .ok (.getfield 89, 3) := by decide +kernel
theorem dX11_readBodyPart_64 : decode cX11_readBodyPart 64 = .ok (.iconst 1, 1) := by decide +kernel
theorem dX11_readBodyPart_65 : decode cX11_readBodyPart 65 = .ok (.iadd, 1) := by decide +kernel
theorem dX11_readBodyPart_66 : decode cX11_readBodyPart 66 = .ok (.putfield 89, 3) := by decide +kernel
theorem dX11_readBodyPart_69 : decode cX11_readBodyPart 69 = .ok (.iconst 0, 1) := by decide +kernel
theorem dX11_readBodyPart_70 : decode cX11_readBodyPart 70 = .ok (.istore_n 2, 1) := by decide +kernel
theorem dX11_readBodyPart_71 : decode cX11_readBodyPart 71 = .ok (.iconst 0, 1) := by decide +kernel
theorem dX11_readBodyPart_72 : decode cX11_readBodyPart 72 = .ok (.istore_n 3, 1) := by decide +kernel
theorem dX11_readBodyPart_73 : decode cX11_readBodyPart 73 = .ok (.iload_n 3, 1) := by decide +kernel
theorem dX11_readBodyPart_74 : decode cX11_readBodyPart 74 = .ok (.bipush 10, 2) := by decide +kernel
theorem dX11_readBodyPart_76 : decode cX11_readBodyPart 76 = .ok (.if_icmp .ge 27, 3) := by decide +kernel
theorem dX11_readBodyPart_79 : decode cX11_readBodyPart 79 = .ok (.iload_n 2, 1) := by decide +kernel
theorem dX11_readBodyPart_80 : decode cX11_readBodyPart 80 = .ok (.aload_n 0, 1) := by decide +kernel
theorem dX11_readBodyPart_81 : decode cX11_readBodyPart 81 = .ok (.iload_n 3, 1) := by decide +kernel
theorem dX11_readBodyPart_82 : decode cX11_readBodyPart 82 = .ok (.invokevirtual 110, 3) := by decide +kernel
theorem dX11_readBodyPart_85 : decode cX11_readBodyPart 85 = .ok (.ifCond .eq 9, 3) := by decide +kernel
theorem dX11_readBodyPart_88 : decode cX11_readBodyPart 88 = .ok (.iconst 1, 1) := by decide +kernel
theorem dX11_readBodyPart_89 : decode cX11_readBodyPart 89 = .ok (.iload_n 3, 1) := by decide +kernel
theorem dX11_readBodyPart_90 : decode cX11_readBodyPart 90 = .ok (.ishl, 1) := by decide +kernel
theorem dX11_readBodyPart_91 : decode cX11_readBodyPart 91 = .ok (.goto 4, 3) := by decide +kernel
theorem dX11_readBodyPart_94 : decode cX11_readBodyPart 94 = .ok (.iconst 0, 1) := by decide +kernel
theorem dX11_readBodyPart_95 : decode cX11_readBodyPart 95 = .ok (.ior, 1) := by decide +kernel
theorem dX11_readBodyPart_96 : decode cX11_readBodyPart 96 = .ok (.istore_n 2, 1) := by decide +kernel
theorem dX11_readBodyPart_97 : decode cX11_readBodyPart 97 = .ok (.iinc 3 1, 3) := by decide +kernel
theorem dX11_readBodyPart_100 : decode cX11_readBodyPart 100 = .ok (.goto (-27), 3) := by decide +kernel
theorem dX11_readBodyPart_103 : decode cX11_readBodyPart 103 = .ok (.aload_n 0, 1) := by decide +kernel
theorem dX11_readBodyPart_104 : decode cX11_readBodyPart 104 = .ok (.iload_n 2, 1) := by decide +kernel
theorem dX11_readBodyPart_105 : decode cX11_readBodyPart 105 = .ok (.invokevirtual 113, 3) := by decide +kernel
theorem dX11_readBodyPart_108 : decode cX11_readBodyPart 108 = .ok (.istore_n 3, 1) := by decide +kernel
theorem dX11_readBodyPart_109 : decode cX11_readBodyPart 109 = .ok (.aload_n 0, 1) := by decide +kernel
theorem dX11_readBodyPart_110 : decode cX11_readBodyPart 110 = .ok (.aload_n 0, 1) := by decide +kernel
theorem dX11_readBodyPart_111 : decode cX11_readBodyPart 111 = .ok (.iload_n 3, 1) := by decide +kernel
theorem dX11_readBodyPart_112 : decode cX11_readBodyPart 112 = .ok (.invokevirtual 110, 3) := by decide +kernel
theorem dX11_readBodyPart_115 : decode cX11_readBodyPart 115 = .ok (.invokevirtual 113, 3) := by decide +kernel
theorem dX11_readBodyPart_118 : decode cX11_readBodyPart 118 = .ok (.istore 4, 2) := by decide +kernel
theorem dX11_readBodyPart_120 : decode cX11_readBodyPart 120 = .ok (.aload_n 0, 1) := by decide +kernel
theorem dX11_readBodyPart_121 : decode cX11_readBodyPart 121 = .ok (.getfield 7, 3) := by decide +kernel
theorem dX11_readBodyPart_124 : decode cX11_readBodyPart 124 = .ok (.iconst 3, 1) := by decide +kernel
theorem dX11_readBodyPart_125 : decode cX11_readBodyPart 125 = .ok (.aload_n 0, 1) := by decide +kernel
theorem dX11_readBodyPart_126 : decode cX11_readBodyPart 126 = .ok (.getfield 103, 3) := by decide +kernel
theorem dX11_readBodyPart_129 : decode cX11_readBodyPart 129 = .ok (.imul, 1) := by decide +kernel
theorem dX11_readBodyPart_130 : decode cX11_readBodyPart 130 = .ok (.iload_n 1, 1) := by decide +kernel
theorem dX11_readBodyPart_131 : decode cX11_readBodyPart 131 = .ok (.iastore, 1) := by decide +kernel
theorem dX11_readBodyPart_132 : decode cX11_readBodyPart 132 = .ok (.aload_n 0, 1) := by decide +kernel
theorem dX11_readBodyPart_133 : decode cX11_readBodyPart 133 = .ok (.getfield 7, 3) := by decide +kernel
theorem dX11_readBodyPart_136 : decode cX11_readBodyPart 136 = .ok (.iconst 3, 1) := by decide +kernel
theorem dX11_readBodyPart_137 : decode cX11_readBodyPart 137 = .ok (.aload_n 0, 1) := by decide +kernel
theorem dX11_readBodyPart_138 : decode cX11_readBodyPart 138 = .ok (.getfield 103, 3) := by decide +kernel
theorem dX11_readBodyPart_141 : decode cX11_readBodyPart 141 = .ok (.imul, 1) := by decide +kernel
theorem dX11_readBodyPart_142 : decode cX11_readBodyPart 142 = .ok (.iconst 1, 1) := by decide +kernel
theorem dX11_readBodyPart_143 : decode cX11_readBodyPart 143 = .ok (.iadd, 1) := by decide +kernel
theorem dX11_readBodyPart_144 : decode cX11_readBodyPart 144 = .ok (.iload_n 3, 1) := by decide +kernel
theorem dX11_readBodyPart_145 : decode cX11_readBodyPart 145 = .ok (.iastore, 1) := by decide +kernel
theorem dX11_readBodyPart_146 : decode cX11_readBodyPart 146 = .ok (.aload_n 0, 1) := by decide +kernel
theorem dX11_readBodyPart_147 : decode cX11_readBodyPart 147 = .ok (.getfield 7, 3) := by decide +kernel
theorem dX11_readBodyPart_150 : decode cX11_readBodyPart 150 = .ok (.iconst 3, 1) := by decide +kernel
theorem dX11_readBodyPart_151 : decode cX11_readBodyPart 151 = .ok (.aload_n 0, 1) := by decide +kernel
theorem dX11_readBodyPart_152 : decode cX11_readBodyPart 152 = .ok (.getfield 103, 3) := by decide +kernel
theorem dX11_readBodyPart_155 : decode cX11_readBodyPart 155 = .ok (.imul, 1) := by decide +kernel
theorem dX11_readBodyPart_156 : decode cX11_readBodyPart 156 = .ok (.iconst 2, 1) := by decide +kernel
theorem dX11_readBodyPart_157 : decode cX11_readBodyPart 157 = .ok (.iadd, 1) := by decide +kernel
theorem dX11_readBodyPart_158 : decode cX11_readBodyPart 158 = .ok (.iload 4, 2) := by decide +kernel
theorem dX11_readBodyPart_160 : decode cX11_readBodyPart 160 = .ok (.iastore, 1) := by decide +kernel
theorem dX11_readBodyPart_161 : decode cX11_readBodyPart 161 = .ok (.aload_n 0, 1) := by decide +kernel
theorem dX11_readBodyPart_162 : decode cX11_readBodyPart 162 = .ok (.dup, 1) := by decide +kernel
theorem dX11_readBodyPart_163 : decode cX11_readBodyPart 163 = .ok (.getfield 103, 3) := by decide +kernel
theorem dX11_readBodyPart_166 : decode cX11_readBodyPart 166 = .ok (.iconst 1, 1) := by decide +kernel
theorem dX11_readBodyPart_167 : decode cX11_readBodyPart 167 = .ok (.iadd, 1) := by decide +kernel
theorem dX11_readBodyPart_168 : decode cX11_readBodyPart 168 = .ok (.putfield 103, 3) := by decide +kernel
theorem dX11_readBodyPart_171 : decode cX11_readBodyPart 171 = .ok (.return_, 1) := by decide +kernel
theorem dX11_untold_0 : decode cX11_untold 0 = .ok (.iconst 0, 1) := by decide +kernel
theorem dX11_untold_1 : decode cX11_untold 1 = .ok (.istore_n 1, 1) := by decide +kernel
theorem dX11_untold_2 : decode cX11_untold 2 = .ok (.iconst 0, 1) := by decide +kernel
theorem dX11_untold_3 : decode cX11_untold 3 = .ok (.istore_n 2, 1) := by decide +kernel
theorem dX11_untold_4 : decode cX11_untold 4 = .ok (.iload_n 2, 1) := by decide +kernel
theorem dX11_untold_5 : decode cX11_untold 5 = .ok (.bipush 6, 2) := by decide +kernel
theorem dX11_untold_7 : decode cX11_untold 7 = .ok (.if_icmp .ge 30, 3) := by decide +kernel
theorem dX11_untold_10 : decode cX11_untold 10 = .ok (.iload_n 1, 1) := by decide +kernel
theorem dX11_untold_11 : decode cX11_untold 11 = .ok (.aload_n 0, 1) := by decide +kernel
theorem dX11_untold_12 : decode cX11_untold 12 = .ok (.getfield 19, 3) := by decide +kernel
theorem dX11_untold_15 : decode cX11_untold 15 = .ok (.iload_n 2, 1) := by decide +kernel
theorem dX11_untold_16 : decode cX11_untold 16 = .ok (.iaload, 1) := by decide +kernel
theorem dX11_untold_17 : decode cX11_untold 17 = .ok (.bipush (-9), 2) := by decide +kernel
theorem dX11_untold_19 : decode cX11_untold 19 = .ok (.if_icmp .ne 9, 3) := by decide +kernel
theorem dX11_untold_22 : decode cX11_untold 22 = .ok (.iconst 1, 1) := by decide +kernel
theorem dX11_untold_23 : decode cX11_untold 23 = .ok (.iload_n 2, 1) := by decide +kernel
theorem dX11_untold_24 : decode cX11_untold 24 = .ok (.ishl, 1) := by decide +kernel
theorem dX11_untold_25 : decode cX11_untold 25 = .ok (.goto 4, 3) := by decide +kernel
theorem dX11_untold_28 : decode cX11_untold 28 = .ok (.iconst 0, 1) := by decide +kernel
theorem dX11_untold_29 : decode cX11_untold 29 = .ok (.ior, 1) := by decide +kernel
theorem dX11_untold_30 : decode cX11_untold 30 = .ok (.istore_n 1, 1) := by decide +kernel
theorem dX11_untold_31 : decode cX11_untold 31 = .ok (.iinc 2 1, 3) := by decide +kernel
theorem dX11_untold_34 : decode cX11_untold 34 = .ok (.goto (-30), 3) := by decide +kernel
theorem dX11_untold_37 : decode cX11_untold 37 = .ok (.iload_n 1, 1) := by decide +kernel
theorem dX11_untold_38 : decode cX11_untold 38 = .ok (.ireturn, 1) := by decide +kernel
theorem dX11_readText_0 : decode cX11_readText 0 = .ok (.aload_n 0, 1) := by decide +kernel
theorem dX11_readText_1 : decode cX11_readText 1 = .ok (.iconst 0, 1) := by decide +kernel
theorem dX11_readText_2 : decode cX11_readText 2 = .ok (.putfield 89, 3) := by decide +kernel
theorem dX11_readText_5 : decode cX11_readText 5 = .ok (.aload_n 0, 1) := by decide +kernel
theorem dX11_readText_6 : decode cX11_readText 6 = .ok (.bipush (-9), 2) := by decide +kernel
theorem dX11_readText_8 : decode cX11_readText 8 = .ok (.putfield 86, 3) := by decide +kernel
theorem dX11_readText_11 : decode cX11_readText 11 = .ok (.aload_n 0, 1) := by decide +kernel
theorem dX11_readText_12 : decode cX11_readText 12 = .ok (.iconst 0, 1) := by decide +kernel
theorem dX11_readText_13 : decode cX11_readText 13 = .ok (.putfield 103, 3) := by decide +kernel
theorem dX11_readText_16 : decode cX11_readText 16 = .ok (.aload_n 0, 1) := by decide +kernel
theorem dX11_readText_17 : decode cX11_readText 17 = .ok (.iconst 0, 1) := by decide +kernel
theorem dX11_readText_18 : decode cX11_readText 18 = .ok (.putfield 116, 3) := by decide +kernel
theorem dX11_readText_21 : decode cX11_readText 21 = .ok (.aload_n 0, 1) := by decide +kernel
theorem dX11_readText_22 : decode cX11_readText 22 = .ok (.iconst 0, 1) := by decide +kernel
theorem dX11_readText_23 : decode cX11_readText 23 = .ok (.putfield 119, 3) := by decide +kernel
theorem dX11_readText_26 : decode cX11_readText 26 = .ok (.iconst 0, 1) := by decide +kernel
theorem dX11_readText_27 : decode cX11_readText 27 = .ok (.istore_n 1, 1) := by decide +kernel
theorem dX11_readText_28 : decode cX11_readText 28 = .ok (.iload_n 1, 1) := by decide +kernel
theorem dX11_readText_29 : decode cX11_readText 29 = .ok (.bipush 6, 2) := by decide +kernel
theorem dX11_readText_31 : decode cX11_readText 31 = .ok (.if_icmp .ge 17, 3) := by decide +kernel
theorem dX11_readText_34 : decode cX11_readText 34 = .ok (.aload_n 0, 1) := by decide +kernel
theorem dX11_readText_35 : decode cX11_readText 35 = .ok (.getfield 19, 3) := by decide +kernel
theorem dX11_readText_38 : decode cX11_readText 38 = .ok (.iload_n 1, 1) := by decide +kernel
theorem dX11_readText_39 : decode cX11_readText 39 = .ok (.bipush (-9), 2) := by decide +kernel
theorem dX11_readText_41 : decode cX11_readText 41 = .ok (.iastore, 1) := by decide +kernel
theorem dX11_readText_42 : decode cX11_readText 42 = .ok (.iinc 1 1, 3) := by decide +kernel
theorem dX11_readText_45 : decode cX11_readText 45 = .ok (.goto (-17), 3) := by decide +kernel
theorem dX11_readText_48 : decode cX11_readText 48 = .ok (.aload_n 0, 1) := by decide +kernel
theorem dX11_readText_49 : decode cX11_readText 49 = .ok (.getfield 81, 3) := by decide +kernel
theorem dX11_readText_52 : decode cX11_readText 52 = .ok (.ifCond .eq 14, 3) := by decide +kernel
theorem dX11_readText_55 : decode cX11_readText 55 = .ok (.aload_n 0, 1) := by decide +kernel
theorem dX11_readText_56 : decode cX11_readText 56 = .ok (.getfield 34, 3) := by decide +kernel
theorem dX11_readText_59 : decode cX11_readText 59 = .ok (.iconst 0, 1) := by decide +kernel
theorem dX11_readText_60 : decode cX11_readText 60 = .ok (.iaload, 1) := by decide +kernel
theorem dX11_readText_61 : decode cX11_readText 61 = .ok (.bipush 71, 2) := by decide +kernel
theorem dX11_readText_63 : decode cX11_readText 63 = .ok (.if_icmp .eq 5, 3) := by decide +kernel
theorem dX11_readText_66 : decode cX11_readText 66 = .ok (.iconst 0, 1) := by decide +kernel
theorem dX11_readText_67 : decode cX11_readText 67 = .ok (.ireturn, 1) := by decide +kernel
theorem dX11_readText_68 : decode cX11_readText 68 = .ok (.aload_n 0, 1) := by decide +kernel
theorem dX11_readText_69 : decode cX11_readText 69 = .ok (.iconst 1, 1) := by decide +kernel
theorem dX11_readText_70 : decode cX11_readText 70 = .ok (.putfield 89, 3) := by decide +kernel
theorem dX11_readText_73 : decode cX11_readText 73 = .ok (.aload_n 0, 1) := by decide +kernel
theorem dX11_readText_74 : decode cX11_readText 74 = .ok (.getfield 86, 3) := by decide +kernel
theorem dX11_readText_77 : decode cX11_readText 77 = .ok (.bipush (-9), 2) := by decide +kernel
theorem dX11_readText_79 : decode cX11_readText 79 = .ok (.if_icmp .ne 30, 3) := by decide +kernel
theorem dX11_readText_82 : decode cX11_readText 82 = .ok (.aload_n 0, 1) := by decide +kernel
theorem dX11_readText_83 : decode cX11_readText 83 = .ok (.getfield 89, 3) := by decide +kernel
theorem dX11_readText_86 : decode cX11_readText 86 = .ok (.aload_n 0, 1) := by decide +kernel
theorem dX11_readText_87 : decode cX11_readText 87 = .ok (.getfield 81, 3) := by decide +kernel
theorem dX11_readText_90 : decode cX11_readText 90 = .ok (.if_icmp .ge 19, 3) := by decide +kernel
theorem dX11_readText_93 : decode cX11_readText 93 = .ok (.aload_n 0, 1) := by decide +kernel
theorem dX11_readText_94 : decode cX11_readText 94 = .ok (.aload_n 0, 1) := by decide +kernel
theorem dX11_readText_95 : decode cX11_readText 95 = .ok (.getfield 34, 3) := by decide +kernel
theorem dX11_readText_98 : decode cX11_readText 98 = .ok (.aload_n 0, 1) := by decide +kernel
theorem dX11_readText_99 : decode cX11_readText 99 = .ok (.getfield 89, 3) := by decide +kernel
theorem dX11_readText_102 : decode cX11_readText 102 = .ok (.iaload, 1) := by decide +kernel
theorem dX11_readText_103 : decode cX11_readText 103 = .ok (.invokevirtual 122, 3) := by decide +kernel
theorem dX11_readText_106 : decode cX11_readText 106 = .ok (.goto (-33), 3) := by decide +kernel
theorem dX11_readText_109 : decode cX11_readText 109 = .ok (.aload_n 0, 1) := by decide +kernel
theorem dX11_readText_110 : decode cX11_readText 110 = .ok (.getfield 86, 3) := by decide +kernel
theorem dX11_readText_113 : decode cX11_readText 113 = .ok (.ireturn, 1) := by decide +kernel
theorem dX11_readPart_0 : decode cX11_readPart 0 = .ok (.iload_n 1, 1) := by decide +kernel
theorem dX11_readPart_1 : decode cX11_readPart 1 = .ok (.bipush 66, 2) := by decide +kernel
theorem dX11_readPart_3 : decode cX11_readPart 3 = .ok (.if_icmp .ne 19, 3) := by decide +kernel
theorem dX11_readPart_6 : decode cX11_readPart 6 = .ok (.aload_n 0, 1) := by decide +kernel
theorem dX11_readPart_7 : decode cX11_readPart 7 = .ok (.getfield 103, 3) := by decide +kernel
theorem dX11_readPart_10 : decode cX11_readPart 10 = .ok (.bipush 8, 2) := by decide +kernel
theorem dX11_readPart_12 : decode cX11_readPart 12 = .ok (.if_icmp .ge 10, 3) := by decide +kernel
theorem dX11_readPart_15 : decode cX11_readPart 15 = .ok (.aload_n 0, 1) := by decide +kernel
theorem dX11_readPart_16 : decode cX11_readPart 16 = .ok (.invokevirtual 126, 3) := by decide +kernel
theorem dX11_readPart_19 : decode cX11_readPart 19 = .ok (.goto 320, 3) := by decide +kernel
theorem dX11_readPart_22 : decode cX11_readPart 22 = .ok (.iload_n 1, 1) := by decide +kernel
theorem dX11_readPart_23 : decode cX11_readPart 23 = .ok (.bipush 72, 2) := by decide +kernel
theorem dX11_readPart_25 : decode cX11_readPart 25 = .ok (.if_icmp .ne 121, 3) := by decide +kernel
theorem dX11_readPart_28 : decode cX11_readPart 28 = .ok (.aload_n 0, 1) := by decide +kernel
theorem dX11_readPart_29 : decode cX11_readPart 29 = .ok (.getfield 116, 3) := by decide +kernel
theorem dX11_readPart_32 : decode cX11_readPart 32 = .ok (.iconst 3, 1) := by decide +kernel
theorem dX11_readPart_33 : decode cX11_readPart 33 = .ok (.if_icmp .ge 113, 3) := by decide +kernel
theorem dX11_readPart_36 : decode cX11_readPart 36 = .ok (.aload_n 0, 1) := by decide +kernel
theorem dX11_readPart_37 : decode cX11_readPart 37 = .ok (.dup, 1) := by decide +kernel
theorem dX11_readPart_38 : decode cX11_readPart 38 = .ok (.getfield 89, 3) := by decide +kernel
theorem dX11_readPart_41 : decode cX11_readPart 41 = .ok (.iconst 1, 1) := by decide +kernel
theorem dX11_readPart_42 : decode cX11_readPart 42 = .ok (.iadd, 1) := by decide +kernel
theorem dX11_readPart_43 : decode cX11_readPart 43 = .ok (.putfield 89, 3) := by decide +kernel
theorem dX11_readPart_46 : decode cX11_readPart 46 = .ok (.iconst 4, 1) := by decide +kernel
theorem dX11_readPart_47 : decode cX11_readPart 47 = .ok (.aload_n 0, 1) := by decide +kernel
theorem dX11_readPart_48 : decode cX11_readPart 48 = .ok (.getfield 116, 3) := by decide +kernel
theorem dX11_readPart_51 : decode cX11_readPart 51 = .ok (.imul, 1) := by decide +kernel
theorem dX11_readPart_52 : decode cX11_readPart 52 = .ok (.istore_n 2, 1) := by decide +kernel
theorem dX11_readPart_53 : decode cX11_readPart 53 = .ok (.aload_n 0, 1) := by decide +kernel
theorem dX11_readPart_54 : decode cX11_readPart 54 = .ok (.getfield 13, 3) := by decide +kernel
theorem dX11_readPart_57 : decode cX11_readPart 57 = .ok (.iload_n 2, 1) := by decide +kernel
theorem dX11_readPart_58 : decode cX11_readPart 58 = .ok (.aload_n 0, 1) := by decide +kernel
theorem dX11_readPart_59 : decode cX11_readPart 59 = .ok (.iconst 0, 1) := by decide +kernel
theorem dX11_readPart_60 : decode cX11_readPart 60 = .ok (.bipush 9, 2) := by decide +kernel
theorem dX11_readPart_62 : decode cX11_readPart 62 = .ok (.invokestatic 129, 3) := by decide +kernel
theorem dX11_readPart_65 : decode cX11_readPart 65 = .ok (.invokevirtual 113, 3) := by decide +kernel
theorem dX11_readPart_68 : decode cX11_readPart 68 = .ok (.iastore, 1) := by decide +kernel
theorem dX11_readPart_69 : decode cX11_readPart 69 = .ok (.aload_n 0, 1) := by decide +kernel
theorem dX11_readPart_70 : decode cX11_readPart 70 = .ok (.getfield 13, 3) := by decide +kernel
theorem dX11_readPart_73 : decode cX11_readPart 73 = .ok (.iload_n 2, 1) := by decide +kernel
theorem dX11_readPart_74 : decode cX11_readPart 74 = .ok (.iconst 1, 1) := by decide +kernel
theorem dX11_readPart_75 : decode cX11_readPart 75 = .ok (.iadd, 1) := by decide +kernel
theorem dX11_readPart_76 : decode cX11_readPart 76 = .ok (.aload_n 0, 1) := by decide +kernel
theorem dX11_readPart_77 : decode cX11_readPart 77 = .ok (.aload_n 0, 1) := by decide +kernel
theorem dX11_readPart_78 : decode cX11_readPart 78 = .ok (.getfield 13, 3) := by decide +kernel
theorem dX11_readPart_81 : decode cX11_readPart 81 = .ok (.iload_n 2, 1) := by decide +kernel
theorem dX11_readPart_82 : decode cX11_readPart 82 = .ok (.iaload, 1) := by decide +kernel
theorem dX11_readPart_83 : decode cX11_readPart 83 = .ok (.bipush 9, 2) := by decide +kernel
theorem dX11_readPart_85 : decode cX11_readPart 85 = .ok (.invokestatic 129, 3) := by decide +kernel
theorem dX11_readPart_88 : decode cX11_readPart 88 = .ok (.invokevirtual 113, 3) := by decide +kernel
theorem dX11_readPart_91 : decode cX11_readPart 91 = .ok (.iastore, 1) := by decide +kernel
theorem dX11_readPart_92 : decode cX11_readPart 92 = .ok (.aload_n 0, 1) := by decide +kernel
theorem dX11_readPart_93 : decode cX11_readPart 93 = .ok (.getfield 13, 3) := by decide +kernel
theorem dX11_readPart_96 : decode cX11_readPart 96 = .ok (.iload_n 2, 1) := by decide +kernel
theorem dX11_readPart_97 : decode cX11_readPart 97 = .ok (.iconst 2, 1) := by decide +kernel
theorem dX11_readPart_98 : decode cX11_readPart 98 = .ok (.iadd, 1) := by decide +kernel
theorem dX11_readPart_99 : decode cX11_readPart 99 = .ok (.aload_n 0, 1) := by decide +kernel
theorem dX11_readPart_100 : decode cX11_readPart 100 = .ok (.iconst 0, 1) := by decide +kernel
theorem dX11_readPart_101 : decode cX11_readPart 101 = .ok (.iconst 5, 1) := by decide +kernel
theorem dX11_readPart_102 : decode cX11_readPart 102 = .ok (.invokestatic 129, 3) := by decide +kernel
theorem dX11_readPart_105 : decode cX11_readPart 105 = .ok (.invokevirtual 113, 3) := by decide +kernel
theorem dX11_readPart_108 : decode cX11_readPart 108 = .ok (.iastore, 1) := by decide +kernel
theorem dX11_readPart_109 : decode cX11_readPart 109 = .ok (.aload_n 0, 1) := by decide +kernel
theorem dX11_readPart_110 : decode cX11_readPart 110 = .ok (.getfield 13, 3) := by decide +kernel
theorem dX11_readPart_113 : decode cX11_readPart 113 = .ok (.iload_n 2, 1) := by decide +kernel
theorem dX11_readPart_114 : decode cX11_readPart 114 = .ok (.iconst 3, 1) := by decide +kernel
theorem dX11_readPart_115 : decode cX11_readPart 115 = .ok (.iadd, 1) := by decide +kernel
theorem dX11_readPart_116 : decode cX11_readPart 116 = .ok (.aload_n 0, 1) := by decide +kernel
theorem dX11_readPart_117 : decode cX11_readPart 117 = .ok (.aload_n 0, 1) := by decide +kernel
theorem dX11_readPart_118 : decode cX11_readPart 118 = .ok (.getfield 13, 3) := by decide +kernel
theorem dX11_readPart_121 : decode cX11_readPart 121 = .ok (.iload_n 2, 1) := by decide +kernel
theorem dX11_readPart_122 : decode cX11_readPart 122 = .ok (.iconst 2, 1) := by decide +kernel
theorem dX11_readPart_123 : decode cX11_readPart 123 = .ok (.iadd, 1) := by decide +kernel
theorem dX11_readPart_124 : decode cX11_readPart 124 = .ok (.iaload, 1) := by decide +kernel
theorem dX11_readPart_125 : decode cX11_readPart 125 = .ok (.iconst 5, 1) := by decide +kernel
theorem dX11_readPart_126 : decode cX11_readPart 126 = .ok (.invokestatic 129, 3) := by decide +kernel
theorem dX11_readPart_129 : decode cX11_readPart 129 = .ok (.invokevirtual 113, 3) := by decide +kernel
theorem dX11_readPart_132 : decode cX11_readPart 132 = .ok (.iastore, 1) := by decide +kernel
theorem dX11_readPart_133 : decode cX11_readPart 133 = .ok (.aload_n 0, 1) := by decide +kernel
theorem dX11_readPart_134 : decode cX11_readPart 134 = .ok (.dup, 1) := by decide +kernel
theorem dX11_readPart_135 : decode cX11_readPart 135 = .ok (.getfield 116, 3) := by decide +kernel
theorem dX11_readPart_138 : decode cX11_readPart 138 = .ok (.iconst 1, 1) := by decide +kernel
theorem dX11_readPart_139 : decode cX11_readPart 139 = .ok (.iadd, 1) := by decide +kernel
theorem dX11_readPart_140 : decode cX11_readPart 140 = .ok (.putfield 116, 3) := by decide +kernel
theorem dX11_readPart_143 : decode cX11_readPart 143 = .ok (.goto 196, 3) := by decide +kernel
theorem dX11_readPart_146 : decode cX11_readPart 146 = .ok (.iload_n 1, 1) := by decide +kernel
theorem dX11_readPart_147 : decode cX11_readPart 147 = .ok (.bipush 76, 2) := by decide +kernel
theorem dX11_readPart_149 : decode cX11_readPart 149 = .ok (.if_icmp .ne 64, 3) := by decide +kernel
theorem dX11_readPart_152 : decode cX11_readPart 152 = .ok (.aload_n 0, 1) := by decide +kernel
theorem dX11_readPart_153 : decode cX11_readPart 153 = .ok (.invokevirtual 133, 3) := by decide +kernel
theorem dX11_readPart_156 : decode cX11_readPart 156 = .ok (.ifCond .eq 57, 3) := by decide +kernel
theorem dX11_readPart_159 : decode cX11_readPart 159 = .ok (.aload_n 0, 1) := by decide +kernel
theorem dX11_readPart_160 : decode cX11_readPart 160 = .ok (.dup, 1) := by decide +kernel
theorem dX11_readPart_161 : decode cX11_readPart 161 = .ok (.getfield 89, 3) := by decide +kernel
theorem dX11_readPart_164 : decode cX11_readPart 164 = .ok (.iconst 1, 1) := by decide +kernel
theorem dX11_readPart_165 : decode cX11_readPart 165 = .ok (.iadd, 1) := by decide +kernel
theorem dX11_readPart_166 : decode cX11_readPart 166 = .ok (.putfield 89, 3) := by decide +kernel
theorem dX11_readPart_169 : decode cX11_readPart 169 = .ok (.aload_n 0, 1) := by decide +kernel
theorem dX11_readPart_170 : decode cX11_readPart 170 = .ok (.aload_n 0, 1) := by decide +kernel
theorem dX11_readPart_171 : decode cX11_readPart 171 = .ok (.invokevirtual 133, 3) := by decide +kernel
theorem dX11_readPart_174 : decode cX11_readPart 174 = .ok (.invokevirtual 113, 3) := by decide +kernel
theorem dX11_readPart_177 : decode cX11_readPart 177 = .ok (.istore_n 2, 1) := by decide +kernel
theorem dX11_readPart_178 : decode cX11_readPart 178 = .ok (.aload_n 0, 1) := by decide +kernel
theorem dX11_readPart_179 : decode cX11_readPart 179 = .ok (.ldc 137, 2) := by decide +kernel
theorem dX11_readPart_181 : decode cX11_readPart 181 = .ok (.invokevirtual 113, 3) := by decide +kernel
theorem dX11_readPart_184 : decode cX11_readPart 184 = .ok (.istore_n 3, 1) := by decide +kernel
theorem dX11_readPart_185 : decode cX11_readPart 185 = .ok (.aload_n 0, 1) := by decide +kernel
theorem dX11_readPart_186 : decode cX11_readPart 186 = .ok (.getfield 19, 3) := by decide +kernel
theorem dX11_readPart_189 : decode cX11_readPart 189 = .ok (.iload_n 2, 1) := by decide +kernel
theorem dX11_readPart_190 : decode cX11_readPart 190 = .ok (.aload_n 0, 1) := by decide +kernel
theorem dX11_readPart_191 : decode cX11_readPart 191 = .ok (.getfield 86, 3) := by decide +kernel
theorem dX11_readPart_194 : decode cX11_readPart 194 = .ok (.bipush (-9), 2) := by decide +kernel
theorem dX11_readPart_196 : decode cX11_readPart 196 = .ok (.if_icmp .ne 7, 3) := by decide +kernel
theorem dX11_readPart_199 : decode cX11_readPart 199 = .ok (.iload_n 3, 1) := by decide +kernel
theorem dX11_readPart_200 : decode cX11_readPart 200 = .ok (.goto 9, 3) := by decide +kernel
theorem dX11_readPart_203 : decode cX11_readPart 203 = .ok (.aload_n 0, 1) := by decide +kernel
theorem dX11_readPart_204 : decode cX11_readPart 204 = .ok (.getfield 19, 3) := by decide +kernel
theorem dX11_readPart_207 : decode cX11_readPart 207 = .ok (.iload_n 2, 1) := by decide +kernel
theorem dX11_readPart_208 : decode cX11_readPart 208 = .ok (.iaload, 1) := by decide +kernel
theorem dX11_readPart_209 : decode cX11_readPart 209 = .ok (.iastore, 1) := by decide +kernel
theorem dX11_readPart_210 : decode cX11_readPart 210 = .ok (.goto 129, 3) := by decide +kernel
theorem dX11_readPart_213 : decode cX11_readPart 213 = .ok (.iload_n 1, 1) := by decide +kernel
theorem dX11_readPart_214 : decode cX11_readPart 214 = .ok (.bipush 79, 2) := by decide +kernel
theorem dX11_readPart_216 : decode cX11_readPart 216 = .ok (.if_icmp .ne 119, 3) := by decide +kernel
theorem dX11_readPart_219 : decode cX11_readPart 219 = .ok (.aload_n 0, 1) := by decide +kernel
theorem dX11_readPart_220 : decode cX11_readPart 220 = .ok (.getfield 119, 3) := by decide +kernel
theorem dX11_readPart_223 : decode cX11_readPart 223 = .ok (.iconst 4, 1) := by decide +kernel
theorem dX11_readPart_224 : decode cX11_readPart 224 = .ok (.if_icmp .ge 111, 3) := by decide +kernel
theorem dX11_readPart_227 : decode cX11_readPart 227 = .ok (.aload_n 0, 1) := by decide +kernel
theorem dX11_readPart_228 : decode cX11_readPart 228 = .ok (.dup, 1) := by decide +kernel
theorem dX11_readPart_229 : decode cX11_readPart 229 = .ok (.getfield 89, 3) := by decide +kernel
theorem dX11_readPart_232 : decode cX11_readPart 232 = .ok (.iconst 1, 1) := by decide +kernel
theorem dX11_readPart_233 : decode cX11_readPart 233 = .ok (.iadd, 1) := by decide +kernel
theorem dX11_readPart_234 : decode cX11_readPart 234 = .ok (.putfield 89, 3) := by decide +kernel
theorem dX11_readPart_237 : decode cX11_readPart 237 = .ok (.iconst 4, 1) := by decide +kernel
theorem dX11_readPart_238 : decode cX11_readPart 238 = .ok (.aload_n 0, 1) := by decide +kernel
theorem dX11_readPart_239 : decode cX11_readPart 239 = .ok (.getfield 119, 3) := by decide +kernel
theorem dX11_readPart_242 : decode cX11_readPart 242 = .ok (.imul, 1) := by decide +kernel
theorem dX11_readPart_243 : decode cX11_readPart 243 = .ok (.istore_n 2, 1) := by decide +kernel
theorem dX11_readPart_244 : decode cX11_readPart 244 = .ok (.aload_n 0, 1) := by decide +kernel
theorem dX11_readPart_245 : decode cX11_readPart 245 = .ok (.getfield 16, 3) := by decide +kernel
theorem dX11_readPart_248 : decode cX11_readPart 248 = .ok (.iload_n 2, 1) := by decide +kernel
theorem dX11_readPart_249 : decode cX11_readPart 249 = .ok (.aload_n 0, 1) := by decide +kernel
theorem dX11_readPart_250 : decode cX11_readPart 250 = .ok (.iconst 0, 1) := by decide +kernel
theorem dX11_readPart_251 : decode cX11_readPart 251 = .ok (.bipush 9, 2) := by decide +kernel
theorem dX11_readPart_253 : decode cX11_readPart 253 = .ok (.invokestatic 129, 3) := by decide +kernel
theorem dX11_readPart_256 : decode cX11_readPart 256 = .ok (.invokevirtual 113, 3) := by decide +kernel
theorem dX11_readPart_259 : decode cX11_readPart 259 = .ok (.iastore, 1) := by decide +kernel
theorem dX11_readPart_260 : decode cX11_readPart 260 = .ok (.aload_n 0, 1) := by decide +kernel
theorem dX11_readPart_261 : decode cX11_readPart 261 = .ok (.getfield 16, 3) := by decide +kernel
theorem dX11_readPart_264 : decode cX11_readPart 264 = .ok (.iload_n 2, 1) := by decide +kernel
theorem dX11_readPart_265 : decode cX11_readPart 265 = .ok (.iconst 1, 1) := by decide +kernel
theorem dX11_readPart_266 : decode cX11_readPart 266 = .ok (.iadd, 1) := by decide +kernel
theorem dX11_readPart_267 : decode cX11_readPart 267 = .ok (.aload_n 0, 1) := by decide +kernel
theorem dX11_readPart_268 : decode cX11_readPart 268 = .ok (.aload_n 0, 1) := by decide +kernel
theorem dX11_readPart_269 : decode cX11_readPart 269 = .ok (.getfield 16, 3) := by decide +kernel
theorem dX11_readPart_272 : decode cX11_readPart 272 = .ok (.iload_n 2, 1) := by decide +kernel
theorem dX11_readPart_273 : decode cX11_readPart 273 = .ok (.iaload, 1) := by decide +kernel
theorem dX11_readPart_274 : decode cX11_readPart 274 = .ok (.bipush 9, 2) := by decide +kernel
theorem dX11_readPart_276 : decode cX11_readPart 276 = .ok (.invokestatic 129, 3) := by decide +kernel
theorem dX11_readPart_279 : decode cX11_readPart 279 = .ok (.invokevirtual 113, 3) := by decide +kernel
theorem dX11_readPart_282 : decode cX11_readPart 282 = .ok (.iastore, 1) := by decide +kernel
theorem dX11_readPart_283 : decode cX11_readPart 283 = .ok (.aload_n 0, 1) := by decide +kernel
theorem dX11_readPart_284 : decode cX11_readPart 284 = .ok (.getfield 16, 3) := by decide +kernel
theorem dX11_readPart_287 : decode cX11_readPart 287 = .ok (.iload_n 2, 1) := by decide +kernel
theorem dX11_readPart_288 : decode cX11_readPart 288 = .ok (.iconst 2, 1) := by decide +kernel
theorem dX11_readPart_289 : decode cX11_readPart 289 = .ok (.iadd, 1) := by decide +kernel
theorem dX11_readPart_290 : decode cX11_readPart 290 = .ok (.aload_n 0, 1) := by decide +kernel
theorem dX11_readPart_291 : decode cX11_readPart 291 = .ok (.ldc 137, 2) := by decide +kernel
theorem dX11_readPart_293 : decode cX11_readPart 293 = .ok (.invokevirtual 113, 3) := by decide +kernel
theorem dX11_readPart_296 : decode cX11_readPart 296 = .ok (.iastore, 1) := by decide +kernel
theorem dX11_readPart_297 : decode cX11_readPart 297 = .ok (.aload_n 0, 1) := by decide +kernel
theorem dX11_readPart_298 : decode cX11_readPart 298 = .ok (.getfield 16, 3) := by decide +kernel
theorem dX11_readPart_301 : decode cX11_readPart 301 = .ok (.iload_n 2, 1) := by decide +kernel
theorem dX11_readPart_302 : decode cX11_readPart 302 = .ok (.iconst 3, 1) := by decide +kernel
theorem dX11_readPart_303 : decode cX11_readPart 303 = .ok (.iadd, 1) := by decide +kernel
theorem dX11_readPart_304 : decode cX11_readPart 304 = .ok (.aload_n 0, 1) := by decide +kernel
theorem dX11_readPart_305 : decode cX11_readPart 305 = .ok (.aload_n 0, 1) := by decide +kernel
theorem dX11_readPart_306 : decode cX11_readPart 306 = .ok (.getfield 16, 3) := by decide +kernel
theorem dX11_readPart_309 : decode cX11_readPart 309 = .ok (.iload_n 2, 1) := by decide +kernel
theorem dX11_readPart_310 : decode cX11_readPart 310 = .ok (.iconst 2, 1) := by decide +kernel
theorem dX11_readPart_311 : decode cX11_readPart 311 = .ok (.iadd, 1) := by decide +kernel
theorem dX11_readPart_312 : decode cX11_readPart 312 = .ok (.iaload, 1) := by decide +kernel
theorem dX11_readPart_313 : decode cX11_readPart 313 = .ok (.bipush 15, 2) := by decide +kernel
theorem dX11_readPart_315 : decode cX11_readPart 315 = .ok (.invokestatic 129, 3) := by decide +kernel
theorem dX11_readPart_318 : decode cX11_readPart 318 = .ok (.invokevirtual 113, 3) := by decide +kernel
theorem dX11_readPart_321 : decode cX11_readPart 321 = .ok (.iastore, 1) := by decide +kernel
theorem dX11_readPart_322 : decode cX11_readPart 322 = .ok (.aload_n 0, 1) := by decide +kernel
theorem dX11_readPart_323 : decode cX11_readPart 323 = .ok (.dup, 1) := by decide +kernel
theorem dX11_readPart_324 : decode cX11_readPart 324 = .ok (.getfield 119, 3) := by decide +kernel
theorem dX11_readPart_327 : decode cX11_readPart 327 = .ok (.iconst 1, 1) := by decide +kernel
theorem dX11_readPart_328 : decode cX11_readPart 328 = .ok (.iadd, 1) := by decide +kernel
theorem dX11_readPart_329 : decode cX11_readPart 329 = .ok (.putfield 119, 3) := by decide +kernel
theorem dX11_readPart_332 : decode cX11_readPart 332 = .ok (.goto 7, 3) := by decide +kernel
theorem dX11_readPart_335 : decode cX11_readPart 335 = .ok (.aload_n 0, 1) := by decide +kernel
theorem dX11_readPart_336 : decode cX11_readPart 336 = .ok (.invokevirtual 100, 3) := by decide +kernel
theorem dX11_readPart_339 : decode cX11_readPart 339 = .ok (.return_, 1) := by decide +kernel
theorem dX11_fault_0 : decode cX11_fault 0 = .ok (.aload_n 0, 1) := by decide +kernel
theorem dX11_fault_1 : decode cX11_fault 1 = .ok (.invokevirtual 138, 3) := by decide +kernel
theorem dX11_fault_4 : decode cX11_fault 4 = .ok (.ireturn, 1) := by decide +kernel
theorem dX11_place_0 : decode cX11_place 0 = .ok (.aload_n 0, 1) := by decide +kernel
theorem dX11_place_1 : decode cX11_place 1 = .ok (.invokevirtual 138, 3) := by decide +kernel
theorem dX11_place_4 : decode cX11_place 4 = .ok (.bipush (-9), 2) := by decide +kernel
theorem dX11_place_6 : decode cX11_place 6 = .ok (.if_icmp .eq 6, 3) := by decide +kernel
theorem dX11_place_9 : decode cX11_place 9 = .ok (.bipush (-3), 2) := by decide +kernel
theorem dX11_place_11 : decode cX11_place 11 = .ok (.ireturn, 1) := by decide +kernel
theorem dX11_place_12 : decode cX11_place 12 = .ok (.aload_n 0, 1) := by decide +kernel
theorem dX11_place_13 : decode cX11_place 13 = .ok (.aload_n 0, 1) := by decide +kernel
theorem dX11_place_14 : decode cX11_place 14 = .ok (.getfield 103, 3) := by decide +kernel
theorem dX11_place_17 : decode cX11_place 17 = .ok (.putfield 71, 3) := by decide +kernel
theorem dX11_place_20 : decode cX11_place 20 = .ok (.aload_n 0, 1) := by decide +kernel
theorem dX11_place_21 : decode cX11_place 21 = .ok (.aload_n 0, 1) := by decide +kernel
theorem dX11_place_22 : decode cX11_place 22 = .ok (.getfield 116, 3) := by decide +kernel
theorem dX11_place_25 : decode cX11_place 25 = .ok (.putfield 141, 3) := by decide +kernel
theorem dX11_place_28 : decode cX11_place 28 = .ok (.aload_n 0, 1) := by decide +kernel
theorem dX11_place_29 : decode cX11_place 29 = .ok (.aload_n 0, 1) := by decide +kernel
theorem dX11_place_30 : decode cX11_place 30 = .ok (.getfield 119, 3) := by decide +kernel
theorem dX11_place_33 : decode cX11_place 33 = .ok (.putfield 144, 3) := by decide +kernel
theorem dX11_place_36 : decode cX11_place 36 = .ok (.iconst 0, 1) := by decide +kernel
theorem dX11_place_37 : decode cX11_place 37 = .ok (.istore_n 1, 1) := by decide +kernel
theorem dX11_place_38 : decode cX11_place 38 = .ok (.iload_n 1, 1) := by decide +kernel
theorem dX11_place_39 : decode cX11_place 39 = .ok (.bipush 24, 2) := by decide +kernel
theorem dX11_place_41 : decode cX11_place 41 = .ok (.if_icmp .ge 21, 3) := by decide +kernel
theorem dX11_place_44 : decode cX11_place 44 = .ok (.aload_n 0, 1) := by decide +kernel
theorem dX11_place_45 : decode cX11_place 45 = .ok (.getfield 22, 3) := by decide +kernel
theorem dX11_place_48 : decode cX11_place 48 = .ok (.iload_n 1, 1) := by decide +kernel
theorem dX11_place_49 : decode cX11_place 49 = .ok (.aload_n 0, 1) := by decide +kernel
theorem dX11_place_50 : decode cX11_place 50 = .ok (.getfield 7, 3) := by decide +kernel
theorem dX11_place_53 : decode cX11_place 53 = .ok (.iload_n 1, 1) := by decide +kernel
theorem dX11_place_54 : decode cX11_place 54 = .ok (.iaload, 1) := by decide +kernel
theorem dX11_place_55 : decode cX11_place 55 = .ok (.iastore, 1) := by decide +kernel
theorem dX11_place_56 : decode cX11_place 56 = .ok (.iinc 1 1, 3) := by decide +kernel
theorem dX11_place_59 : decode cX11_place 59 = .ok (.goto (-21), 3) := by decide +kernel
theorem dX11_place_62 : decode cX11_place 62 = .ok (.iconst 0, 1) := by decide +kernel
theorem dX11_place_63 : decode cX11_place 63 = .ok (.istore_n 1, 1) := by decide +kernel
theorem dX11_place_64 : decode cX11_place 64 = .ok (.iload_n 1, 1) := by decide +kernel
theorem dX11_place_65 : decode cX11_place 65 = .ok (.bipush 12, 2) := by decide +kernel
theorem dX11_place_67 : decode cX11_place 67 = .ok (.if_icmp .ge 21, 3) := by decide +kernel
theorem dX11_place_70 : decode cX11_place 70 = .ok (.aload_n 0, 1) := by decide +kernel
theorem dX11_place_71 : decode cX11_place 71 = .ok (.getfield 25, 3) := by decide +kernel
theorem dX11_place_74 : decode cX11_place 74 = .ok (.iload_n 1, 1) := by decide +kernel
theorem dX11_place_75 : decode cX11_place 75 = .ok (.aload_n 0, 1) := by decide +kernel
theorem dX11_place_76 : decode cX11_place 76 = .ok (.getfield 13, 3) := by decide +kernel
theorem dX11_place_79 : decode cX11_place 79 = .ok (.iload_n 1, 1) := by decide +kernel
theorem dX11_place_80 : decode cX11_place 80 = .ok (.iaload, 1) := by decide +kernel
theorem dX11_place_81 : decode cX11_place 81 = .ok (.iastore, 1) := by decide +kernel
theorem dX11_place_82 : decode cX11_place 82 = .ok (.iinc 1 1, 3) := by decide +kernel
theorem dX11_place_85 : decode cX11_place 85 = .ok (.goto (-21), 3) := by decide +kernel
theorem dX11_place_88 : decode cX11_place 88 = .ok (.iconst 0, 1) := by decide +kernel
theorem dX11_place_89 : decode cX11_place 89 = .ok (.istore_n 1, 1) := by decide +kernel
theorem dX11_place_90 : decode cX11_place 90 = .ok (.iload_n 1, 1) := by decide +kernel
theorem dX11_place_91 : decode cX11_place 91 = .ok (.bipush 16, 2) := by decide +kernel
theorem dX11_place_93 : decode cX11_place 93 = .ok (.if_icmp .ge 21, 3) := by decide +kernel
theorem dX11_place_96 : decode cX11_place 96 = .ok (.aload_n 0, 1) := by decide +kernel
theorem dX11_place_97 : decode cX11_place 97 = .ok (.getfield 28, 3) := by decide +kernel
theorem dX11_place_100 : decode cX11_place 100 = .ok (.iload_n 1, 1) := by decide +kernel
theorem dX11_place_101 : decode cX11_place 101 = .ok (.aload_n 0, 1) := by decide +kernel
theorem dX11_place_102 : decode cX11_place 102 = .ok (.getfield 16, 3) := by decide +kernel
theorem dX11_place_105 : decode cX11_place 105 = .ok (.iload_n 1, 1) := by decide +kernel
theorem dX11_place_106 : decode cX11_place 106 = .ok (.iaload, 1) := by decide +kernel
theorem dX11_place_107 : decode cX11_place 107 = .ok (.iastore, 1) := by decide +kernel
theorem dX11_place_108 : decode cX11_place 108 = .ok (.iinc 1 1, 3) := by decide +kernel
theorem dX11_place_111 : decode cX11_place 111 = .ok (.goto (-21), 3) := by decide +kernel
theorem dX11_place_114 : decode cX11_place 114 = .ok (.aload_n 0, 1) := by decide +kernel
theorem dX11_place_115 : decode cX11_place 115 = .ok (.iconst 0, 1) := by decide +kernel
theorem dX11_place_116 : decode cX11_place 116 = .ok (.putfield 147, 3) := by decide +kernel
theorem dX11_place_119 : decode cX11_place 119 = .ok (.iconst 0, 1) := by decide +kernel
theorem dX11_place_120 : decode cX11_place 120 = .ok (.istore_n 1, 1) := by decide +kernel
theorem dX11_place_121 : decode cX11_place 121 = .ok (.iload_n 1, 1) := by decide +kernel
theorem dX11_place_122 : decode cX11_place 122 = .ok (.bipush 6, 2) := by decide +kernel
theorem dX11_place_124 : decode cX11_place 124 = .ok (.if_icmp .ge 63, 3) := by decide +kernel
theorem dX11_place_127 : decode cX11_place 127 = .ok (.aload_n 0, 1) := by decide +kernel
theorem dX11_place_128 : decode cX11_place 128 = .ok (.dup, 1) := by decide +kernel
theorem dX11_place_129 : decode cX11_place 129 = .ok (.getfield 147, 3) := by decide +kernel
theorem dX11_place_132 : decode cX11_place 132 = .ok (.aload_n 0, 1) := by decide +kernel
theorem dX11_place_133 : decode cX11_place 133 = .ok (.getfield 19, 3) := by decide +kernel
theorem dX11_place_136 : decode cX11_place 136 = .ok (.iload_n 1, 1) := by decide +kernel
theorem dX11_place_137 : decode cX11_place 137 = .ok (.iaload, 1) := by decide +kernel
theorem dX11_place_138 : decode cX11_place 138 = .ok (.bipush (-9), 2) := by decide +kernel
theorem dX11_place_140 : decode cX11_place 140 = .ok (.if_icmp .ne 7, 3) := by decide +kernel
theorem dX11_place_143 : decode cX11_place 143 = .ok (.iconst 0, 1) := by decide +kernel
theorem dX11_place_144 : decode cX11_place 144 = .ok (.goto 6, 3) := by decide +kernel
theorem dX11_place_147 : decode cX11_place 147 = .ok (.iconst 1, 1) := by decide +kernel
theorem dX11_place_148 : decode cX11_place 148 = .ok (.iload_n 1, 1) := by decide +kernel
theorem dX11_place_149 : decode cX11_place 149 = .ok (.ishl, 1) := by decide +kernel
theorem dX11_place_150 : decode cX11_place 150 = .ok (.ior, 1) := by decide +kernel
theorem dX11_place_151 : decode cX11_place 151 = .ok (.putfield 147, 3) := by decide +kernel
theorem dX11_place_154 : decode cX11_place 154 = .ok (.aload_n 0, 1) := by decide +kernel
theorem dX11_place_155 : decode cX11_place 155 = .ok (.getfield 31, 3) := by decide +kernel
theorem dX11_place_158 : decode cX11_place 158 = .ok (.iload_n 1, 1) := by decide +kernel
theorem dX11_place_159 : decode cX11_place 159 = .ok (.aload_n 0, 1) := by decide +kernel
theorem dX11_place_160 : decode cX11_place 160 = .ok (.getfield 19, 3) := by decide +kernel
theorem dX11_place_163 : decode cX11_place 163 = .ok (.iload_n 1, 1) := by decide +kernel
theorem dX11_place_164 : decode cX11_place 164 = .ok (.iaload, 1) := by decide +kernel
theorem dX11_place_165 : decode cX11_place 165 = .ok (.bipush (-9), 2) := by decide +kernel
theorem dX11_place_167 : decode cX11_place 167 = .ok (.if_icmp .ne 7, 3) := by decide +kernel
theorem dX11_place_170 : decode cX11_place 170 = .ok (.iconst 0, 1) := by decide +kernel
theorem dX11_place_171 : decode cX11_place 171 = .ok (.goto 9, 3) := by decide +kernel
theorem dX11_place_174 : decode cX11_place 174 = .ok (.aload_n 0, 1) := by decide +kernel
theorem dX11_place_175 : decode cX11_place 175 = .ok (.getfield 19, 3) := by decide +kernel
theorem dX11_place_178 : decode cX11_place 178 = .ok (.iload_n 1, 1) := by decide +kernel
theorem dX11_place_179 : decode cX11_place 179 = .ok (.iaload, 1) := by decide +kernel
theorem dX11_place_180 : decode cX11_place 180 = .ok (.iastore, 1) := by decide +kernel
theorem dX11_place_181 : decode cX11_place 181 = .ok (.iinc 1 1, 3) := by decide +kernel
theorem dX11_place_184 : decode cX11_place 184 = .ok (.goto (-63), 3) := by decide +kernel
theorem dX11_place_187 : decode cX11_place 187 = .ok (.aload_n 0, 1) := by decide +kernel
theorem dX11_place_188 : decode cX11_place 188 = .ok (.iconst 0, 1) := by decide +kernel
theorem dX11_place_189 : decode cX11_place 189 = .ok (.putfield 150, 3) := by decide +kernel
theorem dX11_place_192 : decode cX11_place 192 = .ok (.aload_n 0, 1) := by decide +kernel
theorem dX11_place_193 : decode cX11_place 193 = .ok (.getfield 56, 3) := by decide +kernel
theorem dX11_place_196 : decode cX11_place 196 = .ok (.iconst 0, 1) := by decide +kernel
theorem dX11_place_197 : decode cX11_place 197 = .ok (.iconst 0, 1) := by decide +kernel
theorem dX11_place_198 : decode cX11_place 198 = .ok (.bastore, 1) := by decide +kernel
theorem dX11_place_199 : decode cX11_place 199 = .ok (.aload_n 0, 1) := by decide +kernel
theorem dX11_place_200 : decode cX11_place 200 = .ok (.getfield 56, 3) := by decide +kernel
theorem dX11_place_203 : decode cX11_place 203 = .ok (.iconst 1, 1) := by decide +kernel
theorem dX11_place_204 : decode cX11_place 204 = .ok (.iconst 0, 1) := by decide +kernel
theorem dX11_place_205 : decode cX11_place 205 = .ok (.bastore, 1) := by decide +kernel
theorem dX11_place_206 : decode cX11_place 206 = .ok (.aload_n 0, 1) := by decide +kernel
theorem dX11_place_207 : decode cX11_place 207 = .ok (.getfield 71, 3) := by decide +kernel
theorem dX11_place_210 : decode cX11_place 210 = .ok (.ireturn, 1) := by decide +kernel
theorem dX11_isBody_0 : decode cX11_isBody 0 = .ok (.iload_n 1, 1) := by decide +kernel
theorem dX11_isBody_1 : decode cX11_isBody 1 = .ok (.i2l, 1) := by decide +kernel
theorem dX11_isBody_2 : decode cX11_isBody 2 = .ok (.lconst 0, 1) := by decide +kernel
theorem dX11_isBody_3 : decode cX11_isBody 3 = .ok (.aload_n 0, 1) := by decide +kernel
theorem dX11_isBody_4 : decode cX11_isBody 4 = .ok (.getfield 71, 3) := by decide +kernel
theorem dX11_isBody_7 : decode cX11_isBody 7 = .ok (.iconst 1, 1) := by decide +kernel
theorem dX11_isBody_8 : decode cX11_isBody 8 = .ok (.isub, 1) := by decide +kernel
theorem dX11_isBody_9 : decode cX11_isBody 9 = .ok (.i2l, 1) := by decide +kernel
theorem dX11_isBody_10 : decode cX11_isBody 10 = .ok (.invokestatic 77, 3) := by decide +kernel
theorem dX11_isBody_13 : decode cX11_isBody 13 = .ok (.ireturn, 1) := by decide +kernel
theorem dX11_isHill_0 : decode cX11_isHill 0 = .ok (.iload_n 1, 1) := by decide +kernel
theorem dX11_isHill_1 : decode cX11_isHill 1 = .ok (.i2l, 1) := by decide +kernel
theorem dX11_isHill_2 : decode cX11_isHill 2 = .ok (.lconst 0, 1) := by decide +kernel
theorem dX11_isHill_3 : decode cX11_isHill 3 = .ok (.aload_n 0, 1) := by decide +kernel
theorem dX11_isHill_4 : decode cX11_isHill 4 = .ok (.getfield 141, 3) := by decide +kernel
theorem dX11_isHill_7 : decode cX11_isHill 7 = .ok (.iconst 1, 1) := by decide +kernel
theorem dX11_isHill_8 : decode cX11_isHill 8 = .ok (.isub, 1) := by decide +kernel
theorem dX11_isHill_9 : decode cX11_isHill 9 = .ok (.i2l, 1) := by decide +kernel
theorem dX11_isHill_10 : decode cX11_isHill 10 = .ok (.invokestatic 77, 3) := by decide +kernel
theorem dX11_isHill_13 : decode cX11_isHill 13 = .ok (.ireturn, 1) := by decide +kernel
theorem dX11_highOf_0 : decode cX11_highOf 0 = .ok (.iload_n 0, 1) := by decide +kernel
theorem dX11_highOf_1 : decode cX11_highOf 1 = .ok (.iconst 1, 1) := by decide +kernel
theorem dX11_highOf_2 : decode cX11_highOf 2 = .ok (.if_icmp .eq 8, 3) := by decide +kernel
theorem dX11_highOf_5 : decode cX11_highOf 5 = .ok (.iload_n 0, 1) := by decide +kernel
theorem dX11_highOf_6 : decode cX11_highOf 6 = .ok (.iconst 2, 1) := by decide +kernel
theorem dX11_highOf_7 : decode cX11_highOf 7 = .ok (.if_icmp .ne 7, 3) := by decide +kernel
theorem dX11_highOf_10 : decode cX11_highOf 10 = .ok (.iconst 3, 1) := by decide +kernel
theorem dX11_highOf_11 : decode cX11_highOf 11 = .ok (.goto 14, 3) := by decide +kernel
theorem dX11_highOf_14 : decode cX11_highOf 14 = .ok (.iload_n 0, 1) := by decide +kernel
theorem dX11_highOf_15 : decode cX11_highOf 15 = .ok (.iconst 4, 1) := by decide +kernel
theorem dX11_highOf_16 : decode cX11_highOf 16 = .ok (.if_icmp .ne 7, 3) := by decide +kernel
theorem dX11_highOf_19 : decode cX11_highOf 19 = .ok (.iconst 4, 1) := by decide +kernel
theorem dX11_highOf_20 : decode cX11_highOf 20 = .ok (.goto 5, 3) := by decide +kernel
theorem dX11_highOf_23 : decode cX11_highOf 23 = .ok (.bipush 6, 2) := by decide +kernel
theorem dX11_highOf_25 : decode cX11_highOf 25 = .ok (.ireturn, 1) := by decide +kernel
theorem dX11_manyOf_0 : decode cX11_manyOf 0 = .ok (.iload_n 0, 1) := by decide +kernel
theorem dX11_manyOf_1 : decode cX11_manyOf 1 = .ok (.iconst 3, 1) := by decide +kernel
theorem dX11_manyOf_2 : decode cX11_manyOf 2 = .ok (.if_icmp .ne 7, 3) := by decide +kernel
theorem dX11_manyOf_5 : decode cX11_manyOf 5 = .ok (.iconst 0, 1) := by decide +kernel
theorem dX11_manyOf_6 : decode cX11_manyOf 6 = .ok (.goto 13, 3) := by decide +kernel
theorem dX11_manyOf_9 : decode cX11_manyOf 9 = .ok (.iload_n 0, 1) := by decide +kernel
theorem dX11_manyOf_10 : decode cX11_manyOf 10 = .ok (.iconst 3, 1) := by decide +kernel
theorem dX11_manyOf_11 : decode cX11_manyOf 11 = .ok (.if_icmp .le 7, 3) := by decide +kernel
theorem dX11_manyOf_14 : decode cX11_manyOf 14 = .ok (.iconst 2, 1) := by decide +kernel
theorem dX11_manyOf_15 : decode cX11_manyOf 15 = .ok (.goto 4, 3) := by decide +kernel
theorem dX11_manyOf_18 : decode cX11_manyOf 18 = .ok (.iconst 1, 1) := by decide +kernel
theorem dX11_manyOf_19 : decode cX11_manyOf 19 = .ok (.ireturn, 1) := by decide +kernel
theorem dX11_body_0 : decode cX11_body 0 = .ok (.aload_n 0, 1) := by decide +kernel
theorem dX11_body_1 : decode cX11_body 1 = .ok (.iload_n 1, 1) := by decide +kernel
theorem dX11_body_2 : decode cX11_body 2 = .ok (.invokevirtual 153, 3) := by decide +kernel
theorem dX11_body_5 : decode cX11_body 5 = .ok (.ifCond .ne 5, 3) := by decide +kernel
theorem dX11_body_8 : decode cX11_body 8 = .ok (.iconst (-1), 1) := by decide +kernel
theorem dX11_body_9 : decode cX11_body 9 = .ok (.ireturn, 1) := by decide +kernel
theorem dX11_body_10 : decode cX11_body 10 = .ok (.iload_n 2, 1) := by decide +kernel
theorem dX11_body_11 : decode cX11_body 11 = .ok (.tableswitch 68 0 4 #[33, 33, 33, 44, 56], 33) := by decide +kernel
theorem dX11_body_44 : decode cX11_body 44 = .ok (.aload_n 0, 1) := by decide +kernel
theorem dX11_body_45 : decode cX11_body 45 = .ok (.getfield 22, 3) := by decide +kernel
theorem dX11_body_48 : decode cX11_body 48 = .ok (.iconst 3, 1) := by decide +kernel
theorem dX11_body_49 : decode cX11_body 49 = .ok (.iload_n 1, 1) := by decide +kernel
theorem dX11_body_50 : decode cX11_body 50 = .ok (.imul, 1) := by decide +kernel
theorem dX11_body_51 : decode cX11_body 51 = .ok (.iload_n 2, 1) := by decide +kernel
theorem dX11_body_52 : decode cX11_body 52 = .ok (.iadd, 1) := by decide +kernel
theorem dX11_body_53 : decode cX11_body 53 = .ok (.iaload, 1) := by decide +kernel
theorem dX11_body_54 : decode cX11_body 54 = .ok (.ireturn, 1) := by decide +kernel
theorem dX11_body_55 : decode cX11_body 55 = .ok (.aload_n 0, 1) := by decide +kernel
theorem dX11_body_56 : decode cX11_body 56 = .ok (.getfield 22, 3) := by decide +kernel
theorem dX11_body_59 : decode cX11_body 59 = .ok (.iconst 3, 1) := by decide +kernel
theorem dX11_body_60 : decode cX11_body 60 = .ok (.iload_n 1, 1) := by decide +kernel
theorem dX11_body_61 : decode cX11_body 61 = .ok (.imul, 1) := by decide +kernel
theorem dX11_body_62 : decode cX11_body 62 = .ok (.iaload, 1) := by decide +kernel
theorem dX11_body_63 : decode cX11_body 63 = .ok (.invokestatic 157, 3) := by decide +kernel
theorem dX11_body_66 : decode cX11_body 66 = .ok (.ireturn, 1) := by decide +kernel
theorem dX11_body_67 : decode cX11_body 67 = .ok (.aload_n 0, 1) := by decide +kernel
theorem dX11_body_68 : decode cX11_body 68 = .ok (.getfield 22, 3) := by decide +kernel
theorem dX11_body_71 : decode cX11_body 71 = .ok (.iconst 3, 1) := by decide +kernel
theorem dX11_body_72 : decode cX11_body 72 = .ok (.iload_n 1, 1) := by decide +kernel
theorem dX11_body_73 : decode cX11_body 73 = .ok (.imul, 1) := by decide +kernel
theorem dX11_body_74 : decode cX11_body 74 = .ok (.iaload, 1) := by decide +kernel
theorem dX11_body_75 : decode cX11_body 75 = .ok (.invokestatic 160, 3) := by decide +kernel
theorem dX11_body_78 : decode cX11_body 78 = .ok (.ireturn, 1) := by decide +kernel
theorem dX11_body_79 : decode cX11_body 79 = .ok (.bipush (-2), 2) := by decide +kernel
theorem dX11_body_81 : decode cX11_body 81 = .ok (.ireturn, 1) := by decide +kernel
theorem dX11_hill_0 : decode cX11_hill 0 = .ok (.aload_n 0, 1) := by decide +kernel
theorem dX11_hill_1 : decode cX11_hill 1 = .ok (.iload_n 1, 1) := by decide +kernel
theorem dX11_hill_2 : decode cX11_hill 2 = .ok (.invokevirtual 163, 3) := by decide +kernel
theorem dX11_hill_5 : decode cX11_hill 5 = .ok (.ifCond .ne 5, 3) := by decide +kernel
theorem dX11_hill_8 : decode cX11_hill 8 = .ok (.iconst (-1), 1) := by decide +kernel
theorem dX11_hill_9 : decode cX11_hill 9 = .ok (.ireturn, 1) := by decide +kernel
theorem dX11_hill_10 : decode cX11_hill 10 = .ok (.iload_n 2, 1) := by decide +kernel
theorem dX11_hill_11 : decode cX11_hill 11 = .ok (.i2l, 1) := by decide +kernel
theorem dX11_hill_12 : decode cX11_hill 12 = .ok (.lconst 0, 1) := by decide +kernel
theorem dX11_hill_13 : decode cX11_hill 13 = .ok (.ldc2_w 166, 3) := by decide +kernel
theorem dX11_hill_16 : decode cX11_hill 16 = .ok (.invokestatic 77, 3) := by decide +kernel
theorem dX11_hill_19 : decode cX11_hill 19 = .ok (.ifCond .eq 16, 3) := by decide +kernel
theorem dX11_hill_22 : decode cX11_hill 22 = .ok (.aload_n 0, 1) := by decide +kernel
theorem dX11_hill_23 : decode cX11_hill 23 = .ok (.getfield 25, 3) := by decide +kernel
theorem dX11_hill_26 : decode cX11_hill 26 = .ok (.iconst 4, 1) := by decide +kernel
theorem dX11_hill_27 : decode cX11_hill 27 = .ok (.iload_n 1, 1) := by decide +kernel
theorem dX11_hill_28 : decode cX11_hill 28 = .ok (.imul, 1) := by decide +kernel
theorem dX11_hill_29 : decode cX11_hill 29 = .ok (.iload_n 2, 1) := by decide +kernel
theorem dX11_hill_30 : decode cX11_hill 30 = .ok (.iadd, 1) := by decide +kernel
theorem dX11_hill_31 : decode cX11_hill 31 = .ok (.iaload, 1) := by decide +kernel
theorem dX11_hill_32 : decode cX11_hill 32 = .ok (.goto 5, 3) := by decide +kernel
theorem dX11_hill_35 : decode cX11_hill 35 = .ok (.bipush (-2), 2) := by decide +kernel
theorem dX11_hill_37 : decode cX11_hill 37 = .ok (.ireturn, 1) := by decide +kernel
theorem dX11_keepAct_0 : decode cX11_keepAct 0 = .ok (.iconst 0, 1) := by decide +kernel
theorem dX11_keepAct_1 : decode cX11_keepAct 1 = .ok (.istore_n 1, 1) := by decide +kernel
theorem dX11_keepAct_2 : decode cX11_keepAct 2 = .ok (.iload_n 1, 1) := by decide +kernel
theorem dX11_keepAct_3 : decode cX11_keepAct 3 = .ok (.bipush 24, 2) := by decide +kernel
theorem dX11_keepAct_5 : decode cX11_keepAct 5 = .ok (.if_icmp .ge 29, 3) := by decide +kernel
theorem dX11_keepAct_8 : decode cX11_keepAct 8 = .ok (.aload_n 0, 1) := by decide +kernel
theorem dX11_keepAct_9 : decode cX11_keepAct 9 = .ok (.getfield 37, 3) := by decide +kernel
theorem dX11_keepAct_12 : decode cX11_keepAct 12 = .ok (.bipush 25, 2) := by decide +kernel
theorem dX11_keepAct_14 : decode cX11_keepAct 14 = .ok (.aload_n 0, 1) := by decide +kernel
theorem dX11_keepAct_15 : decode cX11_keepAct 15 = .ok (.getfield 168, 3) := by decide +kernel
theorem dX11_keepAct_18 : decode cX11_keepAct 18 = .ok (.imul, 1) := by decide +kernel
theorem dX11_keepAct_19 : decode cX11_keepAct 19 = .ok (.iload_n 1, 1) := by decide +kernel
theorem dX11_keepAct_20 : decode cX11_keepAct 20 = .ok (.iadd, 1) := by decide +kernel
theorem dX11_keepAct_21 : decode cX11_keepAct 21 = .ok (.aload_n 0, 1) := by decide +kernel
theorem dX11_keepAct_22 : decode cX11_keepAct 22 = .ok (.getfield 22, 3) := by decide +kernel
theorem dX11_keepAct_25 : decode cX11_keepAct 25 = .ok (.iload_n 1, 1) := by decide +kernel
theorem dX11_keepAct_26 : decode cX11_keepAct 26 = .ok (.iaload, 1) := by decide +kernel
theorem dX11_keepAct_27 : decode cX11_keepAct 27 = .ok (.iastore, 1) := by decide +kernel
theorem dX11_keepAct_28 : decode cX11_keepAct 28 = .ok (.iinc 1 1, 3) := by decide +kernel
theorem dX11_keepAct_31 : decode cX11_keepAct 31 = .ok (.goto (-29), 3) := by decide +kernel
theorem dX11_keepAct_34 : decode cX11_keepAct 34 = .ok (.aload_n 0, 1) := by decide +kernel
theorem dX11_keepAct_35 : decode cX11_keepAct 35 = .ok (.getfield 37, 3) := by decide +kernel
theorem dX11_keepAct_38 : decode cX11_keepAct 38 = .ok (.bipush 25, 2) := by decide +kernel
theorem dX11_keepAct_40 : decode cX11_keepAct 40 = .ok (.aload_n 0, 1) := by decide +kernel
theorem dX11_keepAct_41 : decode cX11_keepAct 41 = .ok (.getfield 168, 3) := by decide +kernel
theorem dX11_keepAct_44 : decode cX11_keepAct 44 = .ok (.imul, 1) := by decide +kernel
theorem dX11_keepAct_45 : decode cX11_keepAct 45 = .ok (.bipush 24, 2) := by decide +kernel
theorem dX11_keepAct_47 : decode cX11_keepAct 47 = .ok (.iadd, 1) := by decide +kernel
theorem dX11_keepAct_48 : decode cX11_keepAct 48 = .ok (.aload_n 0, 1) := by decide +kernel
theorem dX11_keepAct_49 : decode cX11_keepAct 49 = .ok (.getfield 71, 3) := by decide +kernel
theorem dX11_keepAct_52 : decode cX11_keepAct 52 = .ok (.iastore, 1) := by decide +kernel
theorem dX11_keepAct_53 : decode cX11_keepAct 53 = .ok (.aload_n 0, 1) := by decide +kernel
theorem dX11_keepAct_54 : decode cX11_keepAct 54 = .ok (.aload_n 0, 1) := by decide +kernel
theorem dX11_keepAct_55 : decode cX11_keepAct 55 = .ok (.getfield 168, 3) := by decide +kernel
theorem dX11_keepAct_58 : decode cX11_keepAct 58 = .ok (.iconst 1, 1) := by decide +kernel
theorem dX11_keepAct_59 : decode cX11_keepAct 59 = .ok (.iadd, 1) := by decide +kernel
theorem dX11_keepAct_60 : decode cX11_keepAct 60 = .ok (.bipush 16, 2) := by decide +kernel
theorem dX11_keepAct_62 : decode cX11_keepAct 62 = .ok (.irem, 1) := by decide +kernel
theorem dX11_keepAct_63 : decode cX11_keepAct 63 = .ok (.putfield 168, 3) := by decide +kernel
theorem dX11_keepAct_66 : decode cX11_keepAct 66 = .ok (.aload_n 0, 1) := by decide +kernel
theorem dX11_keepAct_67 : decode cX11_keepAct 67 = .ok (.aload_n 0, 1) := by decide +kernel
theorem dX11_keepAct_68 : decode cX11_keepAct 68 = .ok (.getfield 150, 3) := by decide +kernel
theorem dX11_keepAct_71 : decode cX11_keepAct 71 = .ok (.bipush 16, 2) := by decide +kernel
theorem dX11_keepAct_73 : decode cX11_keepAct 73 = .ok (.if_icmp .ge 12, 3) := by decide +kernel
theorem dX11_keepAct_76 : decode cX11_keepAct 76 = .ok (.aload_n 0, 1) := by decide +kernel
theorem dX11_keepAct_77 : decode cX11_keepAct 77 = .ok (.getfield 150, 3) := by decide +kernel
theorem dX11_keepAct_80 : decode cX11_keepAct 80 = .ok (.iconst 1, 1) := by decide +kernel
theorem dX11_keepAct_81 : decode cX11_keepAct 81 = .ok (.iadd, 1) := by decide +kernel
theorem dX11_keepAct_82 : decode cX11_keepAct 82 = .ok (.goto 5, 3) := by decide +kernel
theorem dX11_keepAct_85 : decode cX11_keepAct 85 = .ok (.bipush 16, 2) := by decide +kernel
theorem dX11_keepAct_87 : decode cX11_keepAct 87 = .ok (.putfield 150, 3) := by decide +kernel
theorem dX11_keepAct_90 : decode cX11_keepAct 90 = .ok (.return_, 1) := by decide +kernel
theorem dX11_isCell_0 : decode cX11_isCell 0 = .ok (.iload_n 0, 1) := by decide +kernel
theorem dX11_isCell_1 : decode cX11_isCell 1 = .ok (.i2l, 1) := by decide +kernel
theorem dX11_isCell_2 : decode cX11_isCell 2 = .ok (.lconst 0, 1) := by decide +kernel
theorem dX11_isCell_3 : decode cX11_isCell 3 = .ok (.ldc2_w 171, 3) := by decide +kernel
theorem dX11_isCell_6 : decode cX11_isCell 6 = .ok (.invokestatic 77, 3) := by decide +kernel
theorem dX11_isCell_9 : decode cX11_isCell 9 = .ok (.ifCond .eq 19, 3) := by decide +kernel
theorem dX11_isCell_12 : decode cX11_isCell 12 = .ok (.iload_n 1, 1) := by decide +kernel
theorem dX11_isCell_13 : decode cX11_isCell 13 = .ok (.i2l, 1) := by decide +kernel
theorem dX11_isCell_14 : decode cX11_isCell 14 = .ok (.lconst 0, 1) := by decide +kernel
theorem dX11_isCell_15 : decode cX11_isCell 15 = .ok (.ldc2_w 173, 3) := by decide +kernel
theorem dX11_isCell_18 : decode cX11_isCell 18 = .ok (.invokestatic 77, 3) := by decide +kernel
theorem dX11_isCell_21 : decode cX11_isCell 21 = .ok (.ifCond .eq 7, 3) := by decide +kernel
theorem dX11_isCell_24 : decode cX11_isCell 24 = .ok (.iconst 1, 1) := by decide +kernel
theorem dX11_isCell_25 : decode cX11_isCell 25 = .ok (.goto 4, 3) := by decide +kernel
theorem dX11_isCell_28 : decode cX11_isCell 28 = .ok (.iconst 0, 1) := by decide +kernel
theorem dX11_isCell_29 : decode cX11_isCell 29 = .ok (.ireturn, 1) := by decide +kernel
theorem dX11_isTaken_0 : decode cX11_isTaken 0 = .ok (.iconst 0, 1) := by decide +kernel
theorem dX11_isTaken_1 : decode cX11_isTaken 1 = .ok (.istore_n 3, 1) := by decide +kernel
theorem dX11_isTaken_2 : decode cX11_isTaken 2 = .ok (.iconst 0, 1) := by decide +kernel
theorem dX11_isTaken_3 : decode cX11_isTaken 3 = .ok (.istore 4, 2) := by decide +kernel
theorem dX11_isTaken_5 : decode cX11_isTaken 5 = .ok (.iload 4, 2) := by decide +kernel
theorem dX11_isTaken_7 : decode cX11_isTaken 7 = .ok (.aload_n 0, 1) := by decide +kernel
theorem dX11_isTaken_8 : decode cX11_isTaken 8 = .ok (.getfield 71, 3) := by decide +kernel
theorem dX11_isTaken_11 : decode cX11_isTaken 11 = .ok (.if_icmp .ge 49, 3) := by decide +kernel
theorem dX11_isTaken_14 : decode cX11_isTaken 14 = .ok (.iload_n 3, 1) := by decide +kernel
theorem dX11_isTaken_15 : decode cX11_isTaken 15 = .ok (.ifCond .ne 33, 3) := by decide +kernel
theorem dX11_isTaken_18 : decode cX11_isTaken 18 = .ok (.aload_n 0, 1) := by decide +kernel
theorem dX11_isTaken_19 : decode cX11_isTaken 19 = .ok (.getfield 22, 3) := by decide +kernel
theorem dX11_isTaken_22 : decode cX11_isTaken 22 = .ok (.iconst 3, 1) := by decide +kernel
theorem dX11_isTaken_23 : decode cX11_isTaken 23 = .ok (.iload 4, 2) := by decide +kernel
theorem dX11_isTaken_25 : decode cX11_isTaken 25 = .ok (.imul, 1) := by decide +kernel
theorem dX11_isTaken_26 : decode cX11_isTaken 26 = .ok (.iconst 1, 1) := by decide +kernel
theorem dX11_isTaken_27 : decode cX11_isTaken 27 = .ok (.iadd, 1) := by decide +kernel
theorem dX11_isTaken_28 : decode cX11_isTaken 28 = .ok (.iaload, 1) := by decide +kernel
theorem dX11_isTaken_29 : decode cX11_isTaken 29 = .ok (.iload_n 1, 1) := by decide +kernel
theorem dX11_isTaken_30 : decode cX11_isTaken 30 = .ok (.if_icmp .ne 22, 3) := by decide +kernel
theorem dX11_isTaken_33 : decode cX11_isTaken 33 = .ok (.aload_n 0, 1) := by decide +kernel
theorem dX11_isTaken_34 : decode cX11_isTaken 34 = .ok (.getfield 22, 3) := by decide +kernel
theorem dX11_isTaken_37 : decode cX11_isTaken 37 = .ok (.iconst 3, 1) := by decide +kernel
theorem dX11_isTaken_38 : decode cX11_isTaken 38 = .ok (.iload 4, 2) := by decide +kernel
theorem dX11_isTaken_40 : decode cX11_isTaken 40 = .ok (.imul, 1) := by decide +kernel
theorem dX11_isTaken_41 : decode cX11_isTaken 41 = .ok (.iconst 2, 1) := by decide +kernel
theorem dX11_isTaken_42 : decode cX11_isTaken 42 = .ok (.iadd, 1) := by decide +kernel
theorem dX11_isTaken_43 : decode cX11_isTaken 43 = .ok (.iaload, 1) := by decide +kernel
theorem dX11_isTaken_44 : decode cX11_isTaken 44 = .ok (.iload_n 2, 1) := by decide +kernel
theorem dX11_isTaken_45 : decode cX11_isTaken 45 = .ok (.if_icmp .ne 7, 3) := by decide +kernel
theorem dX11_isTaken_48 : decode cX11_isTaken 48 = .ok (.iconst 1, 1) := by decide +kernel
theorem dX11_isTaken_49 : decode cX11_isTaken 49 = .ok (.goto 4, 3) := by decide +kernel
theorem dX11_isTaken_52 : decode cX11_isTaken 52 = .ok (.iconst 0, 1) := by decide +kernel
theorem dX11_isTaken_53 : decode cX11_isTaken 53 = .ok (.istore_n 3, 1) := by decide +kernel
theorem dX11_isTaken_54 : decode cX11_isTaken 54 = .ok (.iinc 4 1, 3) := by decide +kernel
theorem dX11_isTaken_57 : decode cX11_isTaken 57 = .ok (.goto (-52), 3) := by decide +kernel
theorem dX11_isTaken_60 : decode cX11_isTaken 60 = .ok (.iload_n 3, 1) := by decide +kernel
theorem dX11_isTaken_61 : decode cX11_isTaken 61 = .ok (.ireturn, 1) := by decide +kernel
theorem dX11_put_0 : decode cX11_put 0 = .ok (.iload_n 1, 1) := by decide +kernel
theorem dX11_put_1 : decode cX11_put 1 = .ok (.i2l, 1) := by decide +kernel
theorem dX11_put_2 : decode cX11_put 2 = .ok (.lconst 0, 1) := by decide +kernel
theorem dX11_put_3 : decode cX11_put 3 = .ok (.ldc2_w 173, 3) := by decide +kernel
theorem dX11_put_6 : decode cX11_put 6 = .ok (.invokestatic 77, 3) := by decide +kernel
theorem dX11_put_9 : decode cX11_put 9 = .ok (.ifCond .eq 11, 3) := by decide +kernel
theorem dX11_put_12 : decode cX11_put 12 = .ok (.iload_n 2, 1) := by decide +kernel
theorem dX11_put_13 : decode cX11_put 13 = .ok (.iload_n 3, 1) := by decide +kernel
theorem dX11_put_14 : decode cX11_put 14 = .ok (.invokestatic 175, 3) := by decide +kernel
theorem dX11_put_17 : decode cX11_put 17 = .ok (.ifCond .ne 6, 3) := by decide +kernel
theorem dX11_put_20 : decode cX11_put 20 = .ok (.bipush (-2), 2) := by decide +kernel
theorem dX11_put_22 : decode cX11_put 22 = .ok (.ireturn, 1) := by decide +kernel
theorem dX11_put_23 : decode cX11_put 23 = .ok (.aload_n 0, 1) := by decide +kernel
theorem dX11_put_24 : decode cX11_put 24 = .ok (.iload_n 2, 1) := by decide +kernel
theorem dX11_put_25 : decode cX11_put 25 = .ok (.iload_n 3, 1) := by decide +kernel
theorem dX11_put_26 : decode cX11_put 26 = .ok (.invokevirtual 179, 3) := by decide +kernel
theorem dX11_put_29 : decode cX11_put 29 = .ok (.ifCond .eq 6, 3) := by decide +kernel
theorem dX11_put_32 : decode cX11_put 32 = .ok (.bipush (-3), 2) := by decide +kernel
theorem dX11_put_34 : decode cX11_put 34 = .ok (.ireturn, 1) := by decide +kernel
theorem dX11_put_35 : decode cX11_put 35 = .ok (.aload_n 0, 1) := by decide +kernel
theorem dX11_put_36 : decode cX11_put 36 = .ok (.getfield 71, 3) := by decide +kernel
theorem dX11_put_39 : decode cX11_put 39 = .ok (.bipush 8, 2) := by decide +kernel
theorem dX11_put_41 : decode cX11_put 41 = .ok (.if_icmp .ne 6, 3) := by decide +kernel
theorem dX11_put_44 : decode cX11_put 44 = .ok (.bipush (-4), 2) := by decide +kernel
theorem dX11_put_46 : decode cX11_put 46 = .ok (.ireturn, 1) := by decide +kernel
theorem dX11_put_47 : decode cX11_put 47 = .ok (.aload_n 0, 1) := by decide +kernel
theorem dX11_put_48 : decode cX11_put 48 = .ok (.invokevirtual 182, 3) := by decide +kernel
theorem dX11_put_51 : decode cX11_put 51 = .ok (.aload_n 0, 1) := by decide +kernel
theorem dX11_put_52 : decode cX11_put 52 = .ok (.getfield 22, 3) := by decide +kernel
theorem dX11_put_55 : decode cX11_put 55 = .ok (.iconst 3, 1) := by decide +kernel
theorem dX11_put_56 : decode cX11_put 56 = .ok (.aload_n 0, 1) := by decide +kernel
theorem dX11_put_57 : decode cX11_put 57 = .ok (.getfield 71, 3) := by decide +kernel
theorem dX11_put_60 : decode cX11_put 60 = .ok (.imul, 1) := by decide +kernel
theorem dX11_put_61 : decode cX11_put 61 = .ok (.iload_n 1, 1) := by decide +kernel
theorem dX11_put_62 : decode cX11_put 62 = .ok (.iastore, 1) := by decide +kernel
theorem dX11_put_63 : decode cX11_put 63 = .ok (.aload_n 0, 1) := by decide +kernel
theorem dX11_put_64 : decode cX11_put 64 = .ok (.getfield 22, 3) := by decide +kernel
theorem dX11_put_67 : decode cX11_put 67 = .ok (.iconst 3, 1) := by decide +kernel
theorem dX11_put_68 : decode cX11_put 68 = .ok (.aload_n 0, 1) := by decide +kernel
theorem dX11_put_69 : decode cX11_put 69 = .ok (.getfield 71, 3) := by decide +kernel
theorem dX11_put_72 : decode cX11_put 72 = .ok (.imul, 1) := by decide +kernel
theorem dX11_put_73 : decode cX11_put 73 = .ok (.iconst 1, 1) := by decide +kernel
theorem dX11_put_74 : decode cX11_put 74 = .ok (.iadd, 1) := by decide +kernel
theorem dX11_put_75 : decode cX11_put 75 = .ok (.iload_n 2, 1) := by decide +kernel
theorem dX11_put_76 : decode cX11_put 76 = .ok (.iastore, 1) := by decide +kernel
theorem dX11_put_77 : decode cX11_put 77 = .ok (.aload_n 0, 1) := by decide +kernel
theorem dX11_put_78 : decode cX11_put 78 = .ok (.getfield 22, 3) := by decide +kernel
theorem dX11_put_81 : decode cX11_put 81 = .ok (.iconst 3, 1) := by decide +kernel
theorem dX11_put_82 : decode cX11_put 82 = .ok (.aload_n 0, 1) := by decide +kernel
theorem dX11_put_83 : decode cX11_put 83 = .ok (.getfield 71, 3) := by decide +kernel
theorem dX11_put_86 : decode cX11_put 86 = .ok (.imul, 1) := by decide +kernel
theorem dX11_put_87 : decode cX11_put 87 = .ok (.iconst 2, 1) := by decide +kernel
theorem dX11_put_88 : decode cX11_put 88 = .ok (.iadd, 1) := by decide +kernel
theorem dX11_put_89 : decode cX11_put 89 = .ok (.iload_n 3, 1) := by decide +kernel
theorem dX11_put_90 : decode cX11_put 90 = .ok (.iastore, 1) := by decide +kernel
theorem dX11_put_91 : decode cX11_put 91 = .ok (.aload_n 0, 1) := by decide +kernel
theorem dX11_put_92 : decode cX11_put 92 = .ok (.dup, 1) := by decide +kernel
theorem dX11_put_93 : decode cX11_put 93 = .ok (.getfield 71, 3) := by decide +kernel
theorem dX11_put_96 : decode cX11_put 96 = .ok (.iconst 1, 1) := by decide +kernel
theorem dX11_put_97 : decode cX11_put 97 = .ok (.iadd, 1) := by decide +kernel
theorem dX11_put_98 : decode cX11_put 98 = .ok (.putfield 71, 3) := by decide +kernel
theorem dX11_put_101 : decode cX11_put 101 = .ok (.aload_n 0, 1) := by decide +kernel
theorem dX11_put_102 : decode cX11_put 102 = .ok (.getfield 71, 3) := by decide +kernel
theorem dX11_put_105 : decode cX11_put 105 = .ok (.iconst 1, 1) := by decide +kernel
theorem dX11_put_106 : decode cX11_put 106 = .ok (.isub, 1) := by decide +kernel
theorem dX11_put_107 : decode cX11_put 107 = .ok (.ireturn, 1) := by decide +kernel
theorem dX11_without_0 : decode cX11_without 0 = .ok (.iload_n 0, 1) := by decide +kernel
theorem dX11_without_1 : decode cX11_without 1 = .ok (.ifCond .ge 8, 3) := by decide +kernel
theorem dX11_without_4 : decode cX11_without 4 = .ok (.iload_n 0, 1) := by decide +kernel
theorem dX11_without_5 : decode cX11_without 5 = .ok (.ineg, 1) := by decide +kernel
theorem dX11_without_6 : decode cX11_without 6 = .ok (.goto 4, 3) := by decide +kernel
theorem dX11_without_9 : decode cX11_without 9 = .ok (.iload_n 0, 1) := by decide +kernel
theorem dX11_without_10 : decode cX11_without 10 = .ok (.ireturn, 1) := by decide +kernel
theorem dX11_move_0 : decode cX11_move 0 = .ok (.aload_n 0, 1) := by decide +kernel
theorem dX11_move_1 : decode cX11_move 1 = .ok (.iload_n 1, 1) := by decide +kernel
theorem dX11_move_2 : decode cX11_move 2 = .ok (.invokevirtual 153, 3) := by decide +kernel
theorem dX11_move_5 : decode cX11_move 5 = .ok (.ifCond .ne 5, 3) := by decide +kernel
theorem dX11_move_8 : decode cX11_move 8 = .ok (.iconst (-1), 1) := by decide +kernel
theorem dX11_move_9 : decode cX11_move 9 = .ok (.ireturn, 1) := by decide +kernel
theorem dX11_move_10 : decode cX11_move 10 = .ok (.iload_n 2, 1) := by decide +kernel
theorem dX11_move_11 : decode cX11_move 11 = .ok (.iload_n 3, 1) := by decide +kernel
theorem dX11_move_12 : decode cX11_move 12 = .ok (.invokestatic 175, 3) := by decide +kernel
theorem dX11_move_15 : decode cX11_move 15 = .ok (.ifCond .ne 6, 3) := by decide +kernel
theorem dX11_move_18 : decode cX11_move 18 = .ok (.bipush (-2), 2) := by decide +kernel
theorem dX11_move_20 : decode cX11_move 20 = .ok (.ireturn, 1) := by decide +kernel
theorem dX11_move_21 : decode cX11_move 21 = .ok (.aload_n 0, 1) := by decide +kernel
theorem dX11_move_22 : decode cX11_move 22 = .ok (.iload_n 2, 1) := by decide +kernel
theorem dX11_move_23 : decode cX11_move 23 = .ok (.iload_n 3, 1) := by decide +kernel
theorem dX11_move_24 : decode cX11_move 24 = .ok (.invokevirtual 179, 3) := by decide +kernel
theorem dX11_move_27 : decode cX11_move 27 = .ok (.ifCond .eq 6, 3) := by decide +kernel
theorem dX11_move_30 : decode cX11_move 30 = .ok (.bipush (-3), 2) := by decide +kernel
theorem dX11_move_32 : decode cX11_move 32 = .ok (.ireturn, 1) := by decide +kernel
theorem dX11_move_33 : decode cX11_move 33 = .ok (.aload_n 0, 1) := by decide +kernel
theorem dX11_move_34 : decode cX11_move 34 = .ok (.invokevirtual 182, 3) := by decide +kernel
theorem dX11_move_37 : decode cX11_move 37 = .ok (.aload_n 0, 1) := by decide +kernel
theorem dX11_move_38 : decode cX11_move 38 = .ok (.getfield 22, 3) := by decide +kernel
theorem dX11_move_41 : decode cX11_move 41 = .ok (.iconst 3, 1) := by decide +kernel
theorem dX11_move_42 : decode cX11_move 42 = .ok (.iload_n 1, 1) := by decide +kernel
theorem dX11_move_43 : decode cX11_move 43 = .ok (.imul, 1) := by decide +kernel
theorem dX11_move_44 : decode cX11_move 44 = .ok (.iconst 1, 1) := by decide +kernel
theorem dX11_move_45 : decode cX11_move 45 = .ok (.iadd, 1) := by decide +kernel
theorem dX11_move_46 : decode cX11_move 46 = .ok (.iaload, 1) := by decide +kernel
theorem dX11_move_47 : decode cX11_move 47 = .ok (.iload_n 2, 1) := by decide +kernel
theorem dX11_move_48 : decode cX11_move 48 = .ok (.isub, 1) := by decide +kernel
theorem dX11_move_49 : decode cX11_move 49 = .ok (.invokestatic 185, 3) := by decide +kernel
theorem dX11_move_52 : decode cX11_move 52 = .ok (.aload_n 0, 1) := by decide +kernel
theorem dX11_move_53 : decode cX11_move 53 = .ok (.getfield 22, 3) := by decide +kernel
theorem dX11_move_56 : decode cX11_move 56 = .ok (.iconst 3, 1) := by decide +kernel
theorem dX11_move_57 : decode cX11_move 57 = .ok (.iload_n 1, 1) := by decide +kernel
theorem dX11_move_58 : decode cX11_move 58 = .ok (.imul, 1) := by decide +kernel
theorem dX11_move_59 : decode cX11_move 59 = .ok (.iconst 2, 1) := by decide +kernel
theorem dX11_move_60 : decode cX11_move 60 = .ok (.iadd, 1) := by decide +kernel
theorem dX11_move_61 : decode cX11_move 61 = .ok (.iaload, 1) := by decide +kernel
theorem dX11_move_62 : decode cX11_move 62 = .ok (.iload_n 3, 1) := by decide +kernel
theorem dX11_move_63 : decode cX11_move 63 = .ok (.isub, 1) := by decide +kernel
theorem dX11_move_64 : decode cX11_move 64 = .ok (.invokestatic 185, 3) := by decide +kernel
theorem dX11_move_67 : decode cX11_move 67 = .ok (.iadd, 1) := by decide +kernel
theorem dX11_move_68 : decode cX11_move 68 = .ok (.istore 4, 2) := by decide +kernel
theorem dX11_move_70 : decode cX11_move 70 = .ok (.aload_n 0, 1) := by decide +kernel
theorem dX11_move_71 : decode cX11_move 71 = .ok (.getfield 22, 3) := by decide +kernel
theorem dX11_move_74 : decode cX11_move 74 = .ok (.iconst 3, 1) := by decide +kernel
theorem dX11_move_75 : decode cX11_move 75 = .ok (.iload_n 1, 1) := by decide +kernel
theorem dX11_move_76 : decode cX11_move 76 = .ok (.imul, 1) := by decide +kernel
theorem dX11_move_77 : decode cX11_move 77 = .ok (.iconst 1, 1) := by decide +kernel
theorem dX11_move_78 : decode cX11_move 78 = .ok (.iadd, 1) := by decide +kernel
theorem dX11_move_79 : decode cX11_move 79 = .ok (.iload_n 2, 1) := by decide +kernel
theorem dX11_move_80 : decode cX11_move 80 = .ok (.iastore, 1) := by decide +kernel
theorem dX11_move_81 : decode cX11_move 81 = .ok (.aload_n 0, 1) := by decide +kernel
theorem dX11_move_82 : decode cX11_move 82 = .ok (.getfield 22, 3) := by decide +kernel
theorem dX11_move_85 : decode cX11_move 85 = .ok (.iconst 3, 1) := by decide +kernel
theorem dX11_move_86 : decode cX11_move 86 = .ok (.iload_n 1, 1) := by decide +kernel
theorem dX11_move_87 : decode cX11_move 87 = .ok (.imul, 1) := by decide +kernel
theorem dX11_move_88 : decode cX11_move 88 = .ok (.iconst 2, 1) := by decide +kernel
theorem dX11_move_89 : decode cX11_move 89 = .ok (.iadd, 1) := by decide +kernel
theorem dX11_move_90 : decode cX11_move 90 = .ok (.iload_n 3, 1) := by decide +kernel
theorem dX11_move_91 : decode cX11_move 91 = .ok (.iastore, 1) := by decide +kernel
theorem dX11_move_92 : decode cX11_move 92 = .ok (.iload 4, 2) := by decide +kernel
theorem dX11_move_94 : decode cX11_move 94 = .ok (.ireturn, 1) := by decide +kernel
theorem dX11_take_0 : decode cX11_take 0 = .ok (.aload_n 0, 1) := by decide +kernel
theorem dX11_take_1 : decode cX11_take 1 = .ok (.iload_n 1, 1) := by decide +kernel
theorem dX11_take_2 : decode cX11_take 2 = .ok (.invokevirtual 153, 3) := by decide +kernel
theorem dX11_take_5 : decode cX11_take 5 = .ok (.ifCond .ne 5, 3) := by decide +kernel
theorem dX11_take_8 : decode cX11_take 8 = .ok (.iconst (-1), 1) := by decide +kernel
theorem dX11_take_9 : decode cX11_take 9 = .ok (.ireturn, 1) := by decide +kernel
theorem dX11_take_10 : decode cX11_take 10 = .ok (.aload_n 0, 1) := by decide +kernel
theorem dX11_take_11 : decode cX11_take 11 = .ok (.invokevirtual 182, 3) := by decide +kernel
theorem dX11_take_14 : decode cX11_take 14 = .ok (.aload_n 0, 1) := by decide +kernel
theorem dX11_take_15 : decode cX11_take 15 = .ok (.dup, 1) := by decide +kernel
theorem dX11_take_16 : decode cX11_take 16 = .ok (.getfield 71, 3) := by decide +kernel
theorem dX11_take_19 : decode cX11_take 19 = .ok (.iconst 1, 1) := by decide +kernel
theorem dX11_take_20 : decode cX11_take 20 = .ok (.isub, 1) := by decide +kernel
theorem dX11_take_21 : decode cX11_take 21 = .ok (.putfield 71, 3) := by decide +kernel
theorem dX11_take_24 : decode cX11_take 24 = .ok (.iconst 3, 1) := by decide +kernel
theorem dX11_take_25 : decode cX11_take 25 = .ok (.iload_n 1, 1) := by decide +kernel
theorem dX11_take_26 : decode cX11_take 26 = .ok (.imul, 1) := by decide +kernel
theorem dX11_take_27 : decode cX11_take 27 = .ok (.istore_n 2, 1) := by decide +kernel
theorem dX11_take_28 : decode cX11_take 28 = .ok (.iload_n 2, 1) := by decide +kernel
theorem dX11_take_29 : decode cX11_take 29 = .ok (.iconst 3, 1) := by decide +kernel
theorem dX11_take_30 : decode cX11_take 30 = .ok (.aload_n 0, 1) := by decide +kernel
theorem dX11_take_31 : decode cX11_take 31 = .ok (.getfield 71, 3) := by decide +kernel
theorem dX11_take_34 : decode cX11_take 34 = .ok (.imul, 1) := by decide +kernel
theorem dX11_take_35 : decode cX11_take 35 = .ok (.if_icmp .ge 23, 3) := by decide +kernel
theorem dX11_take_38 : decode cX11_take 38 = .ok (.aload_n 0, 1) := by decide +kernel
theorem dX11_take_39 : decode cX11_take 39 = .ok (.getfield 22, 3) := by decide +kernel
theorem dX11_take_42 : decode cX11_take 42 = .ok (.iload_n 2, 1) := by decide +kernel
theorem dX11_take_43 : decode cX11_take 43 = .ok (.aload_n 0, 1) := by decide +kernel
theorem dX11_take_44 : decode cX11_take 44 = .ok (.getfield 22, 3) := by decide +kernel
theorem dX11_take_47 : decode cX11_take 47 = .ok (.iload_n 2, 1) := by decide +kernel
theorem dX11_take_48 : decode cX11_take 48 = .ok (.iconst 3, 1) := by decide +kernel
theorem dX11_take_49 : decode cX11_take 49 = .ok (.iadd, 1) := by decide +kernel
theorem dX11_take_50 : decode cX11_take 50 = .ok (.iaload, 1) := by decide +kernel
theorem dX11_take_51 : decode cX11_take 51 = .ok (.iastore, 1) := by decide +kernel
theorem dX11_take_52 : decode cX11_take 52 = .ok (.iinc 2 1, 3) := by decide +kernel
theorem dX11_take_55 : decode cX11_take 55 = .ok (.goto (-27), 3) := by decide +kernel
theorem dX11_take_58 : decode cX11_take 58 = .ok (.aload_n 0, 1) := by decide +kernel
theorem dX11_take_59 : decode cX11_take 59 = .ok (.getfield 71, 3) := by decide +kernel
theorem dX11_take_62 : decode cX11_take 62 = .ok (.ireturn, 1) := by decide +kernel
theorem dX11_back_0 : decode cX11_back 0 = .ok (.aload_n 0, 1) := by decide +kernel
theorem dX11_back_1 : decode cX11_back 1 = .ok (.getfield 150, 3) := by decide +kernel
theorem dX11_back_4 : decode cX11_back 4 = .ok (.ifCond .ne 6, 3) := by decide +kernel
theorem dX11_back_7 : decode cX11_back 7 = .ok (.bipush (-3), 2) := by decide +kernel
theorem dX11_back_9 : decode cX11_back 9 = .ok (.ireturn, 1) := by decide +kernel
theorem dX11_back_10 : decode cX11_back 10 = .ok (.aload_n 0, 1) := by decide +kernel
theorem dX11_back_11 : decode cX11_back 11 = .ok (.dup, 1) := by decide +kernel
theorem dX11_back_12 : decode cX11_back 12 = .ok (.getfield 150, 3) := by decide +kernel
theorem dX11_back_15 : decode cX11_back 15 = .ok (.iconst 1, 1) := by decide +kernel
theorem dX11_back_16 : decode cX11_back 16 = .ok (.isub, 1) := by decide +kernel
theorem dX11_back_17 : decode cX11_back 17 = .ok (.putfield 150, 3) := by decide +kernel
theorem dX11_back_20 : decode cX11_back 20 = .ok (.aload_n 0, 1) := by decide +kernel
theorem dX11_back_21 : decode cX11_back 21 = .ok (.aload_n 0, 1) := by decide +kernel
theorem dX11_back_22 : decode cX11_back 22 = .ok (.getfield 168, 3) := by decide +kernel
theorem dX11_back_25 : decode cX11_back 25 = .ok (.bipush 15, 2) := by decide +kernel
theorem dX11_back_27 : decode cX11_back 27 = .ok (.iadd, 1) := by decide +kernel
theorem dX11_back_28 : decode cX11_back 28 = .ok (.bipush 16, 2) := by decide +kernel
theorem dX11_back_30 : decode cX11_back 30 = .ok (.irem, 1) := by decide +kernel
theorem dX11_back_31 : decode cX11_back 31 = .ok (.putfield 168, 3) := by decide +kernel
theorem dX11_back_34 : decode cX11_back 34 = .ok (.iconst 0, 1) := by decide +kernel
theorem dX11_back_35 : decode cX11_back 35 = .ok (.istore_n 1, 1) := by decide +kernel
theorem dX11_back_36 : decode cX11_back 36 = .ok (.iload_n 1, 1) := by decide +kernel
theorem dX11_back_37 : decode cX11_back 37 = .ok (.bipush 24, 2) := by decide +kernel
theorem dX11_back_39 : decode cX11_back 39 = .ok (.if_icmp .ge 29, 3) := by decide +kernel
theorem dX11_back_42 : decode cX11_back 42 = .ok (.aload_n 0, 1) := by decide +kernel
theorem dX11_back_43 : decode cX11_back 43 = .ok (.getfield 22, 3) := by decide +kernel
theorem dX11_back_46 : decode cX11_back 46 = .ok (.iload_n 1, 1) := by decide +kernel
theorem dX11_back_47 : decode cX11_back 47 = .ok (.aload_n 0, 1) := by decide +kernel
theorem dX11_back_48 : decode cX11_back 48 = .ok (.getfield 37, 3) := by decide +kernel
theorem dX11_back_51 : decode cX11_back 51 = .ok (.bipush 25, 2) := by decide +kernel
theorem dX11_back_53 : decode cX11_back 53 = .ok (.aload_n 0, 1) := by decide +kernel
theorem dX11_back_54 : decode cX11_back 54 = .ok (.getfield 168, 3) := by decide +kernel
theorem dX11_back_57 : decode cX11_back 57 = .ok (.imul, 1) := by decide +kernel
theorem dX11_back_58 : decode cX11_back 58 = .ok (.iload_n 1, 1) := by decide +kernel
theorem dX11_back_59 : decode cX11_back 59 = .ok (.iadd, 1) := by decide +kernel
theorem dX11_back_60 : decode cX11_back 60 = .ok (.iaload, 1) := by decide +kernel
theorem dX11_back_61 : decode cX11_back 61 = .ok (.iastore, 1) := by decide +kernel
theorem dX11_back_62 : decode cX11_back 62 = .ok (.iinc 1 1, 3) := by decide +kernel
theorem dX11_back_65 : decode cX11_back 65 = .ok (.goto (-29), 3) := by decide +kernel
theorem dX11_back_68 : decode cX11_back 68 = .ok (.aload_n 0, 1) := by decide +kernel
theorem dX11_back_69 : decode cX11_back 69 = .ok (.aload_n 0, 1) := by decide +kernel
theorem dX11_back_70 : decode cX11_back 70 = .ok (.getfield 37, 3) := by decide +kernel
theorem dX11_back_73 : decode cX11_back 73 = .ok (.bipush 25, 2) := by decide +kernel
theorem dX11_back_75 : decode cX11_back 75 = .ok (.aload_n 0, 1) := by decide +kernel
theorem dX11_back_76 : decode cX11_back 76 = .ok (.getfield 168, 3) := by decide +kernel
theorem dX11_back_79 : decode cX11_back 79 = .ok (.imul, 1) := by decide +kernel
theorem dX11_back_80 : decode cX11_back 80 = .ok (.bipush 24, 2) := by decide +kernel
theorem dX11_back_82 : decode cX11_back 82 = .ok (.iadd, 1) := by decide +kernel
theorem dX11_back_83 : decode cX11_back 83 = .ok (.iaload, 1) := by decide +kernel
theorem dX11_back_84 : decode cX11_back 84 = .ok (.putfield 71, 3) := by decide +kernel
theorem dX11_back_87 : decode cX11_back 87 = .ok (.aload_n 0, 1) := by decide +kernel
theorem dX11_back_88 : decode cX11_back 88 = .ok (.getfield 150, 3) := by decide +kernel
theorem dX11_back_91 : decode cX11_back 91 = .ok (.ireturn, 1) := by decide +kernel
theorem dX11_isMinute_0 : decode cX11_isMinute 0 = .ok (.iload_n 0, 1) := by decide +kernel
theorem dX11_isMinute_1 : decode cX11_isMinute 1 = .ok (.i2l, 1) := by decide +kernel
theorem dX11_isMinute_2 : decode cX11_isMinute 2 = .ok (.lconst 0, 1) := by decide +kernel
theorem dX11_isMinute_3 : decode cX11_isMinute 3 = .ok (.ldc2_w 188, 3) := by decide +kernel
theorem dX11_isMinute_6 : decode cX11_isMinute 6 = .ok (.invokestatic 77, 3) := by decide +kernel
theorem dX11_isMinute_9 : decode cX11_isMinute 9 = .ok (.ireturn, 1) := by decide +kernel
theorem dX11_longAt_0 : decode cX11_longAt 0 = .ok (.iload_n 0, 1) := by decide +kernel
theorem dX11_longAt_1 : decode cX11_longAt 1 = .ok (.iload_n 1, 1) := by decide +kernel
theorem dX11_longAt_2 : decode cX11_longAt 2 = .ok (.bipush 8, 2) := by decide +kernel
theorem dX11_longAt_4 : decode cX11_longAt 4 = .ok (.isub, 1) := by decide +kernel
theorem dX11_longAt_5 : decode cX11_longAt 5 = .ok (.invokestatic 185, 3) := by decide +kernel
theorem dX11_longAt_8 : decode cX11_longAt 8 = .ok (.imul, 1) := by decide +kernel
theorem dX11_longAt_9 : decode cX11_longAt 9 = .ok (.iconst 4, 1) := by decide +kernel
theorem dX11_longAt_10 : decode cX11_longAt 10 = .ok (.idiv, 1) := by decide +kernel
theorem dX11_longAt_11 : decode cX11_longAt 11 = .ok (.ireturn, 1) := by decide +kernel
theorem dX11_reach_0 : decode cX11_reach 0 = .ok (.iload_n 0, 1) := by decide +kernel
theorem dX11_reach_1 : decode cX11_reach 1 = .ok (.iload_n 2, 1) := by decide +kernel
theorem dX11_reach_2 : decode cX11_reach 2 = .ok (.invokestatic 190, 3) := by decide +kernel
theorem dX11_reach_5 : decode cX11_reach 5 = .ok (.istore_n 3, 1) := by decide +kernel
theorem dX11_reach_6 : decode cX11_reach 6 = .ok (.iconst 0, 1) := by decide +kernel
theorem dX11_reach_7 : decode cX11_reach 7 = .ok (.istore 4, 2) := by decide +kernel
theorem dX11_reach_9 : decode cX11_reach 9 = .ok (.iconst 0, 1) := by decide +kernel
theorem dX11_reach_10 : decode cX11_reach 10 = .ok (.istore 5, 2) := by decide +kernel
theorem dX11_reach_12 : decode cX11_reach 12 = .ok (.iload 5, 2) := by decide +kernel
theorem dX11_reach_14 : decode cX11_reach 14 = .ok (.bipush 10, 2) := by decide +kernel
theorem dX11_reach_16 : decode cX11_reach 16 = .ok (.if_icmp .ge 76, 3) := by decide +kernel
theorem dX11_reach_19 : decode cX11_reach 19 = .ok (.iload_n 2, 1) := by decide +kernel
theorem dX11_reach_20 : decode cX11_reach 20 = .ok (.bipush 8, 2) := by decide +kernel
theorem dX11_reach_22 : decode cX11_reach 22 = .ok (.if_icmp .ge 25, 3) := by decide +kernel
theorem dX11_reach_25 : decode cX11_reach 25 = .ok (.iload 5, 2) := by decide +kernel
theorem dX11_reach_27 : decode cX11_reach 27 = .ok (.iload_n 1, 1) := by decide +kernel
theorem dX11_reach_28 : decode cX11_reach 28 = .ok (.if_icmp .ge 15, 3) := by decide +kernel
theorem dX11_reach_31 : decode cX11_reach 31 = .ok (.iload 5, 2) := by decide +kernel
theorem dX11_reach_33 : decode cX11_reach 33 = .ok (.iload_n 1, 1) := by decide +kernel
theorem dX11_reach_34 : decode cX11_reach 34 = .ok (.iload_n 3, 1) := by decide +kernel
theorem dX11_reach_35 : decode cX11_reach 35 = .ok (.isub, 1) := by decide +kernel
theorem dX11_reach_36 : decode cX11_reach 36 = .ok (.if_icmp .lt 7, 3) := by decide +kernel
theorem dX11_reach_39 : decode cX11_reach 39 = .ok (.iconst 1, 1) := by decide +kernel
theorem dX11_reach_40 : decode cX11_reach 40 = .ok (.goto 26, 3) := by decide +kernel
theorem dX11_reach_43 : decode cX11_reach 43 = .ok (.iconst 0, 1) := by decide +kernel
theorem dX11_reach_44 : decode cX11_reach 44 = .ok (.goto 22, 3) := by decide +kernel
theorem dX11_reach_47 : decode cX11_reach 47 = .ok (.iload 5, 2) := by decide +kernel
theorem dX11_reach_49 : decode cX11_reach 49 = .ok (.iload_n 1, 1) := by decide +kernel
theorem dX11_reach_50 : decode cX11_reach 50 = .ok (.if_icmp .le 15, 3) := by decide +kernel
theorem dX11_reach_53 : decode cX11_reach 53 = .ok (.iload 5, 2) := by decide +kernel
theorem dX11_reach_55 : decode cX11_reach 55 = .ok (.iload_n 1, 1) := by decide +kernel
theorem dX11_reach_56 : decode cX11_reach 56 = .ok (.iload_n 3, 1) := by decide +kernel
theorem dX11_reach_57 : decode cX11_reach 57 = .ok (.iadd, 1) := by decide +kernel
theorem dX11_reach_58 : decode cX11_reach 58 = .ok (.if_icmp .gt 7, 3) := by decide +kernel
theorem dX11_reach_61 : decode cX11_reach 61 = .ok (.iconst 1, 1) := by decide +kernel
theorem dX11_reach_62 : decode cX11_reach 62 = .ok (.goto 4, 3) := by decide +kernel
theorem dX11_reach_65 : decode cX11_reach 65 = .ok (.iconst 0, 1) := by decide +kernel
theorem dX11_reach_66 : decode cX11_reach 66 = .ok (.istore 6, 2) := by decide +kernel
theorem dX11_reach_68 : decode cX11_reach 68 = .ok (.iload 4, 2) := by decide +kernel
theorem dX11_reach_70 : decode cX11_reach 70 = .ok (.iload 6, 2) := by decide +kernel
theorem dX11_reach_72 : decode cX11_reach 72 = .ok (.ifCond .eq 10, 3) := by decide +kernel
theorem dX11_reach_75 : decode cX11_reach 75 = .ok (.iconst 1, 1) := by decide +kernel
theorem dX11_reach_76 : decode cX11_reach 76 = .ok (.iload 5, 2) := by decide +kernel
theorem dX11_reach_78 : decode cX11_reach 78 = .ok (.ishl, 1) := by decide +kernel
theorem dX11_reach_79 : decode cX11_reach 79 = .ok (.goto 4, 3) := by decide +kernel
theorem dX11_reach_82 : decode cX11_reach 82 = .ok (.iconst 0, 1) := by decide +kernel
theorem dX11_reach_83 : decode cX11_reach 83 = .ok (.ior, 1) := by decide +kernel
theorem dX11_reach_84 : decode cX11_reach 84 = .ok (.istore 4, 2) := by decide +kernel
theorem dX11_reach_86 : decode cX11_reach 86 = .ok (.iinc 5 1, 3) := by decide +kernel
theorem dX11_reach_89 : decode cX11_reach 89 = .ok (.goto (-77), 3) := by decide +kernel
theorem dX11_reach_92 : decode cX11_reach 92 = .ok (.iload 4, 2) := by decide +kernel
theorem dX11_reach_94 : decode cX11_reach 94 = .ok (.ireturn, 1) := by decide +kernel
theorem dX11_lit_0 : decode cX11_lit 0 = .ok (.iload_n 1, 1) := by decide +kernel
theorem dX11_lit_1 : decode cX11_lit 1 = .ok (.aload_n 0, 1) := by decide +kernel
theorem dX11_lit_2 : decode cX11_lit 2 = .ok (.getfield 31, 3) := by decide +kernel
theorem dX11_lit_5 : decode cX11_lit 5 = .ok (.iload_n 2, 1) := by decide +kernel
theorem dX11_lit_6 : decode cX11_lit 6 = .ok (.iaload, 1) := by decide +kernel
theorem dX11_lit_7 : decode cX11_lit 7 = .ok (.if_icmp .lt 9, 3) := by decide +kernel
theorem dX11_lit_10 : decode cX11_lit 10 = .ok (.sipush 1023, 3) := by decide +kernel
theorem dX11_lit_13 : decode cX11_lit 13 = .ok (.goto 4, 3) := by decide +kernel
theorem dX11_lit_16 : decode cX11_lit 16 = .ok (.iconst 0, 1) := by decide +kernel
theorem dX11_lit_17 : decode cX11_lit 17 = .ok (.istore_n 3, 1) := by decide +kernel
end
section
theorem dX11_lit_18 : decode cX11_lit 18 = .ok (.iconst 0, 1) := by decide +kernel
theorem dX11_lit_19 : decode cX11_lit 19 = .ok (.istore 4, 2) := by decide +kernel
theorem dX11_lit_21 : decode cX11_lit 21 = .ok (.iload 4, 2) := by decide +kernel
theorem dX11_lit_23 : decode cX11_lit 23 = .ok (.aload_n 0, 1) := by decide +kernel
theorem dX11_lit_24 : decode cX11_lit 24 = .ok (.getfield 144, 3) := by decide +kernel
theorem dX11_lit_27 : decode cX11_lit 27 = .ok (.if_icmp .ge 83, 3) := by decide +kernel
theorem dX11_lit_30 : decode cX11_lit 30 = .ok (.iload_n 1, 1) := by decide +kernel
theorem dX11_lit_31 : decode cX11_lit 31 = .ok (.aload_n 0, 1) := by decide +kernel
theorem dX11_lit_32 : decode cX11_lit 32 = .ok (.getfield 28, 3) := by decide +kernel
theorem dX11_lit_35 : decode cX11_lit 35 = .ok (.iconst 4, 1) := by decide +kernel
theorem dX11_lit_36 : decode cX11_lit 36 = .ok (.iload 4, 2) := by decide +kernel
theorem dX11_lit_38 : decode cX11_lit 38 = .ok (.imul, 1) := by decide +kernel
theorem dX11_lit_39 : decode cX11_lit 39 = .ok (.iconst 2, 1) := by decide +kernel
theorem dX11_lit_40 : decode cX11_lit 40 = .ok (.iadd, 1) := by decide +kernel
theorem dX11_lit_41 : decode cX11_lit 41 = .ok (.iaload, 1) := by decide +kernel
theorem dX11_lit_42 : decode cX11_lit 42 = .ok (.if_icmp .lt 22, 3) := by decide +kernel
theorem dX11_lit_45 : decode cX11_lit 45 = .ok (.iload_n 1, 1) := by decide +kernel
theorem dX11_lit_46 : decode cX11_lit 46 = .ok (.aload_n 0, 1) := by decide +kernel
theorem dX11_lit_47 : decode cX11_lit 47 = .ok (.getfield 28, 3) := by decide +kernel
theorem dX11_lit_50 : decode cX11_lit 50 = .ok (.iconst 4, 1) := by decide +kernel
theorem dX11_lit_51 : decode cX11_lit 51 = .ok (.iload 4, 2) := by decide +kernel
theorem dX11_lit_53 : decode cX11_lit 53 = .ok (.imul, 1) := by decide +kernel
theorem dX11_lit_54 : decode cX11_lit 54 = .ok (.iconst 3, 1) := by decide +kernel
theorem dX11_lit_55 : decode cX11_lit 55 = .ok (.iadd, 1) := by decide +kernel
theorem dX11_lit_56 : decode cX11_lit 56 = .ok (.iaload, 1) := by decide +kernel
theorem dX11_lit_57 : decode cX11_lit 57 = .ok (.if_icmp .gt 7, 3) := by decide +kernel
theorem dX11_lit_60 : decode cX11_lit 60 = .ok (.iconst 1, 1) := by decide +kernel
theorem dX11_lit_61 : decode cX11_lit 61 = .ok (.goto 4, 3) := by decide +kernel
theorem dX11_lit_64 : decode cX11_lit 64 = .ok (.iconst 0, 1) := by decide +kernel
theorem dX11_lit_65 : decode cX11_lit 65 = .ok (.istore 5, 2) := by decide +kernel
theorem dX11_lit_67 : decode cX11_lit 67 = .ok (.iload_n 3, 1) := by decide +kernel
theorem dX11_lit_68 : decode cX11_lit 68 = .ok (.iload 5, 2) := by decide +kernel
theorem dX11_lit_70 : decode cX11_lit 70 = .ok (.ifCond .eq 31, 3) := by decide +kernel
theorem dX11_lit_73 : decode cX11_lit 73 = .ok (.aload_n 0, 1) := by decide +kernel
theorem dX11_lit_74 : decode cX11_lit 74 = .ok (.getfield 28, 3) := by decide +kernel
theorem dX11_lit_77 : decode cX11_lit 77 = .ok (.iconst 4, 1) := by decide +kernel
theorem dX11_lit_78 : decode cX11_lit 78 = .ok (.iload 4, 2) := by decide +kernel
theorem dX11_lit_80 : decode cX11_lit 80 = .ok (.imul, 1) := by decide +kernel
theorem dX11_lit_81 : decode cX11_lit 81 = .ok (.iaload, 1) := by decide +kernel
theorem dX11_lit_82 : decode cX11_lit 82 = .ok (.aload_n 0, 1) := by decide +kernel
theorem dX11_lit_83 : decode cX11_lit 83 = .ok (.getfield 28, 3) := by decide +kernel
theorem dX11_lit_86 : decode cX11_lit 86 = .ok (.iconst 4, 1) := by decide +kernel
theorem dX11_lit_87 : decode cX11_lit 87 = .ok (.iload 4, 2) := by decide +kernel
theorem dX11_lit_89 : decode cX11_lit 89 = .ok (.imul, 1) := by decide +kernel
theorem dX11_lit_90 : decode cX11_lit 90 = .ok (.iconst 1, 1) := by decide +kernel
theorem dX11_lit_91 : decode cX11_lit 91 = .ok (.iadd, 1) := by decide +kernel
theorem dX11_lit_92 : decode cX11_lit 92 = .ok (.iaload, 1) := by decide +kernel
theorem dX11_lit_93 : decode cX11_lit 93 = .ok (.invokestatic 129, 3) := by decide +kernel
theorem dX11_lit_96 : decode cX11_lit 96 = .ok (.iconst (-1), 1) := by decide +kernel
theorem dX11_lit_97 : decode cX11_lit 97 = .ok (.ixor, 1) := by decide +kernel
theorem dX11_lit_98 : decode cX11_lit 98 = .ok (.goto 4, 3) := by decide +kernel
theorem dX11_lit_101 : decode cX11_lit 101 = .ok (.iconst (-1), 1) := by decide +kernel
theorem dX11_lit_102 : decode cX11_lit 102 = .ok (.iand, 1) := by decide +kernel
theorem dX11_lit_103 : decode cX11_lit 103 = .ok (.istore_n 3, 1) := by decide +kernel
theorem dX11_lit_104 : decode cX11_lit 104 = .ok (.iinc 4 1, 3) := by decide +kernel
theorem dX11_lit_107 : decode cX11_lit 107 = .ok (.goto (-86), 3) := by decide +kernel
theorem dX11_lit_110 : decode cX11_lit 110 = .ok (.iload_n 3, 1) := by decide +kernel
theorem dX11_lit_111 : decode cX11_lit 111 = .ok (.ireturn, 1) := by decide +kernel
theorem dX11_darkOf_0 : decode cX11_darkOf 0 = .ok (.iconst 0, 1) := by decide +kernel
theorem dX11_darkOf_1 : decode cX11_darkOf 1 = .ok (.istore_n 3, 1) := by decide +kernel
theorem dX11_darkOf_2 : decode cX11_darkOf 2 = .ok (.iconst 0, 1) := by decide +kernel
theorem dX11_darkOf_3 : decode cX11_darkOf 3 = .ok (.istore 4, 2) := by decide +kernel
theorem dX11_darkOf_5 : decode cX11_darkOf 5 = .ok (.iload 4, 2) := by decide +kernel
theorem dX11_darkOf_7 : decode cX11_darkOf 7 = .ok (.aload_n 0, 1) := by decide +kernel
theorem dX11_darkOf_8 : decode cX11_darkOf 8 = .ok (.getfield 71, 3) := by decide +kernel
theorem dX11_darkOf_11 : decode cX11_darkOf 11 = .ok (.if_icmp .ge 58, 3) := by decide +kernel
theorem dX11_darkOf_14 : decode cX11_darkOf 14 = .ok (.iload_n 3, 1) := by decide +kernel
theorem dX11_darkOf_15 : decode cX11_darkOf 15 = .ok (.aload_n 0, 1) := by decide +kernel
theorem dX11_darkOf_16 : decode cX11_darkOf 16 = .ok (.getfield 22, 3) := by decide +kernel
theorem dX11_darkOf_19 : decode cX11_darkOf 19 = .ok (.iconst 3, 1) := by decide +kernel
theorem dX11_darkOf_20 : decode cX11_darkOf 20 = .ok (.iload 4, 2) := by decide +kernel
theorem dX11_darkOf_22 : decode cX11_darkOf 22 = .ok (.imul, 1) := by decide +kernel
theorem dX11_darkOf_23 : decode cX11_darkOf 23 = .ok (.iconst 2, 1) := by decide +kernel
theorem dX11_darkOf_24 : decode cX11_darkOf 24 = .ok (.iadd, 1) := by decide +kernel
theorem dX11_darkOf_25 : decode cX11_darkOf 25 = .ok (.iaload, 1) := by decide +kernel
theorem dX11_darkOf_26 : decode cX11_darkOf 26 = .ok (.iload_n 2, 1) := by decide +kernel
theorem dX11_darkOf_27 : decode cX11_darkOf 27 = .ok (.if_icmp .ne 33, 3) := by decide +kernel
theorem dX11_darkOf_30 : decode cX11_darkOf 30 = .ok (.aload_n 0, 1) := by decide +kernel
theorem dX11_darkOf_31 : decode cX11_darkOf 31 = .ok (.getfield 22, 3) := by decide +kernel
theorem dX11_darkOf_34 : decode cX11_darkOf 34 = .ok (.iconst 3, 1) := by decide +kernel
theorem dX11_darkOf_35 : decode cX11_darkOf 35 = .ok (.iload 4, 2) := by decide +kernel
theorem dX11_darkOf_37 : decode cX11_darkOf 37 = .ok (.imul, 1) := by decide +kernel
theorem dX11_darkOf_38 : decode cX11_darkOf 38 = .ok (.iaload, 1) := by decide +kernel
theorem dX11_darkOf_39 : decode cX11_darkOf 39 = .ok (.invokestatic 157, 3) := by decide +kernel
theorem dX11_darkOf_42 : decode cX11_darkOf 42 = .ok (.aload_n 0, 1) := by decide +kernel
theorem dX11_darkOf_43 : decode cX11_darkOf 43 = .ok (.getfield 22, 3) := by decide +kernel
theorem dX11_darkOf_46 : decode cX11_darkOf 46 = .ok (.iconst 3, 1) := by decide +kernel
theorem dX11_darkOf_47 : decode cX11_darkOf 47 = .ok (.iload 4, 2) := by decide +kernel
theorem dX11_darkOf_49 : decode cX11_darkOf 49 = .ok (.imul, 1) := by decide +kernel
theorem dX11_darkOf_50 : decode cX11_darkOf 50 = .ok (.iconst 1, 1) := by decide +kernel
theorem dX11_darkOf_51 : decode cX11_darkOf 51 = .ok (.iadd, 1) := by decide +kernel
theorem dX11_darkOf_52 : decode cX11_darkOf 52 = .ok (.iaload, 1) := by decide +kernel
theorem dX11_darkOf_53 : decode cX11_darkOf 53 = .ok (.iload_n 1, 1) := by decide +kernel
theorem dX11_darkOf_54 : decode cX11_darkOf 54 = .ok (.invokestatic 193, 3) := by decide +kernel
theorem dX11_darkOf_57 : decode cX11_darkOf 57 = .ok (.goto 4, 3) := by decide +kernel
theorem dX11_darkOf_60 : decode cX11_darkOf 60 = .ok (.iconst 0, 1) := by decide +kernel
theorem dX11_darkOf_61 : decode cX11_darkOf 61 = .ok (.ior, 1) := by decide +kernel
theorem dX11_darkOf_62 : decode cX11_darkOf 62 = .ok (.istore_n 3, 1) := by decide +kernel
theorem dX11_darkOf_63 : decode cX11_darkOf 63 = .ok (.iinc 4 1, 3) := by decide +kernel
theorem dX11_darkOf_66 : decode cX11_darkOf 66 = .ok (.goto (-61), 3) := by decide +kernel
theorem dX11_darkOf_69 : decode cX11_darkOf 69 = .ok (.iload_n 3, 1) := by decide +kernel
theorem dX11_darkOf_70 : decode cX11_darkOf 70 = .ok (.aload_n 0, 1) := by decide +kernel
theorem dX11_darkOf_71 : decode cX11_darkOf 71 = .ok (.iload_n 1, 1) := by decide +kernel
theorem dX11_darkOf_72 : decode cX11_darkOf 72 = .ok (.iload_n 2, 1) := by decide +kernel
theorem dX11_darkOf_73 : decode cX11_darkOf 73 = .ok (.invokevirtual 197, 3) := by decide +kernel
theorem dX11_darkOf_76 : decode cX11_darkOf 76 = .ok (.iand, 1) := by decide +kernel
theorem dX11_darkOf_77 : decode cX11_darkOf 77 = .ok (.ireturn, 1) := by decide +kernel
theorem dX11_shadow_0 : decode cX11_shadow 0 = .ok (.aload_n 0, 1) := by decide +kernel
theorem dX11_shadow_1 : decode cX11_shadow 1 = .ok (.iload_n 1, 1) := by decide +kernel
theorem dX11_shadow_2 : decode cX11_shadow 2 = .ok (.invokevirtual 153, 3) := by decide +kernel
theorem dX11_shadow_5 : decode cX11_shadow 5 = .ok (.ifCond .ne 5, 3) := by decide +kernel
theorem dX11_shadow_8 : decode cX11_shadow 8 = .ok (.iconst (-1), 1) := by decide +kernel
theorem dX11_shadow_9 : decode cX11_shadow 9 = .ok (.ireturn, 1) := by decide +kernel
theorem dX11_shadow_10 : decode cX11_shadow 10 = .ok (.iload_n 2, 1) := by decide +kernel
theorem dX11_shadow_11 : decode cX11_shadow 11 = .ok (.invokestatic 200, 3) := by decide +kernel
theorem dX11_shadow_14 : decode cX11_shadow 14 = .ok (.ifCond .eq 21, 3) := by decide +kernel
theorem dX11_shadow_17 : decode cX11_shadow 17 = .ok (.aload_n 0, 1) := by decide +kernel
theorem dX11_shadow_18 : decode cX11_shadow 18 = .ok (.getfield 22, 3) := by decide +kernel
theorem dX11_shadow_21 : decode cX11_shadow 21 = .ok (.iconst 3, 1) := by decide +kernel
theorem dX11_shadow_22 : decode cX11_shadow 22 = .ok (.iload_n 1, 1) := by decide +kernel
theorem dX11_shadow_23 : decode cX11_shadow 23 = .ok (.imul, 1) := by decide +kernel
theorem dX11_shadow_24 : decode cX11_shadow 24 = .ok (.iaload, 1) := by decide +kernel
theorem dX11_shadow_25 : decode cX11_shadow 25 = .ok (.invokestatic 157, 3) := by decide +kernel
theorem dX11_shadow_28 : decode cX11_shadow 28 = .ok (.iload_n 2, 1) := by decide +kernel
theorem dX11_shadow_29 : decode cX11_shadow 29 = .ok (.invokestatic 190, 3) := by decide +kernel
theorem dX11_shadow_32 : decode cX11_shadow 32 = .ok (.goto 5, 3) := by decide +kernel
theorem dX11_shadow_35 : decode cX11_shadow 35 = .ok (.bipush (-2), 2) := by decide +kernel
theorem dX11_shadow_37 : decode cX11_shadow 37 = .ok (.ireturn, 1) := by decide +kernel
theorem dX11_dark_0 : decode cX11_dark 0 = .ok (.iload_n 1, 1) := by decide +kernel
theorem dX11_dark_1 : decode cX11_dark 1 = .ok (.invokestatic 200, 3) := by decide +kernel
theorem dX11_dark_4 : decode cX11_dark 4 = .ok (.ifCond .eq 24, 3) := by decide +kernel
theorem dX11_dark_7 : decode cX11_dark 7 = .ok (.iload_n 2, 1) := by decide +kernel
theorem dX11_dark_8 : decode cX11_dark 8 = .ok (.i2l, 1) := by decide +kernel
theorem dX11_dark_9 : decode cX11_dark 9 = .ok (.lconst 0, 1) := by decide +kernel
theorem dX11_dark_10 : decode cX11_dark 10 = .ok (.ldc2_w 173, 3) := by decide +kernel
theorem dX11_dark_13 : decode cX11_dark 13 = .ok (.invokestatic 77, 3) := by decide +kernel
theorem dX11_dark_16 : decode cX11_dark 16 = .ok (.ifCond .eq 12, 3) := by decide +kernel
theorem dX11_dark_19 : decode cX11_dark 19 = .ok (.aload_n 0, 1) := by decide +kernel
theorem dX11_dark_20 : decode cX11_dark 20 = .ok (.iload_n 1, 1) := by decide +kernel
theorem dX11_dark_21 : decode cX11_dark 21 = .ok (.iload_n 2, 1) := by decide +kernel
theorem dX11_dark_22 : decode cX11_dark 22 = .ok (.invokevirtual 203, 3) := by decide +kernel
theorem dX11_dark_25 : decode cX11_dark 25 = .ok (.goto 5, 3) := by decide +kernel
theorem dX11_dark_28 : decode cX11_dark 28 = .ok (.bipush (-2), 2) := by decide +kernel
theorem dX11_dark_30 : decode cX11_dark 30 = .ok (.ireturn, 1) := by decide +kernel
theorem dX11_layRuns_0 : decode cX11_layRuns 0 = .ok (.iconst 0, 1) := by decide +kernel
theorem dX11_layRuns_1 : decode cX11_layRuns 1 = .ok (.istore_n 3, 1) := by decide +kernel
theorem dX11_layRuns_2 : decode cX11_layRuns 2 = .ok (.aload_n 0, 1) := by decide +kernel
theorem dX11_layRuns_3 : decode cX11_layRuns 3 = .ok (.getfield 25, 3) := by decide +kernel
theorem dX11_layRuns_6 : decode cX11_layRuns 6 = .ok (.iconst 4, 1) := by decide +kernel
theorem dX11_layRuns_7 : decode cX11_layRuns 7 = .ok (.iload_n 1, 1) := by decide +kernel
theorem dX11_layRuns_8 : decode cX11_layRuns 8 = .ok (.imul, 1) := by decide +kernel
theorem dX11_layRuns_9 : decode cX11_layRuns 9 = .ok (.iaload, 1) := by decide +kernel
theorem dX11_layRuns_10 : decode cX11_layRuns 10 = .ok (.aload_n 0, 1) := by decide +kernel
theorem dX11_layRuns_11 : decode cX11_layRuns 11 = .ok (.getfield 25, 3) := by decide +kernel
theorem dX11_layRuns_14 : decode cX11_layRuns 14 = .ok (.iconst 4, 1) := by decide +kernel
theorem dX11_layRuns_15 : decode cX11_layRuns 15 = .ok (.iload_n 1, 1) := by decide +kernel
theorem dX11_layRuns_16 : decode cX11_layRuns 16 = .ok (.imul, 1) := by decide +kernel
theorem dX11_layRuns_17 : decode cX11_layRuns 17 = .ok (.iconst 1, 1) := by decide +kernel
theorem dX11_layRuns_18 : decode cX11_layRuns 18 = .ok (.iadd, 1) := by decide +kernel
theorem dX11_layRuns_19 : decode cX11_layRuns 19 = .ok (.iaload, 1) := by decide +kernel
theorem dX11_layRuns_20 : decode cX11_layRuns 20 = .ok (.invokestatic 129, 3) := by decide +kernel
theorem dX11_layRuns_23 : decode cX11_layRuns 23 = .ok (.istore 4, 2) := by decide +kernel
theorem dX11_layRuns_25 : decode cX11_layRuns 25 = .ok (.aload_n 0, 1) := by decide +kernel
theorem dX11_layRuns_26 : decode cX11_layRuns 26 = .ok (.getfield 25, 3) := by decide +kernel
theorem dX11_layRuns_29 : decode cX11_layRuns 29 = .ok (.iconst 4, 1) := by decide +kernel
theorem dX11_layRuns_30 : decode cX11_layRuns 30 = .ok (.iload_n 1, 1) := by decide +kernel
theorem dX11_layRuns_31 : decode cX11_layRuns 31 = .ok (.imul, 1) := by decide +kernel
theorem dX11_layRuns_32 : decode cX11_layRuns 32 = .ok (.iconst 2, 1) := by decide +kernel
theorem dX11_layRuns_33 : decode cX11_layRuns 33 = .ok (.iadd, 1) := by decide +kernel
theorem dX11_layRuns_34 : decode cX11_layRuns 34 = .ok (.iaload, 1) := by decide +kernel
theorem dX11_layRuns_35 : decode cX11_layRuns 35 = .ok (.istore 5, 2) := by decide +kernel
theorem dX11_layRuns_37 : decode cX11_layRuns 37 = .ok (.iload 5, 2) := by decide +kernel
theorem dX11_layRuns_39 : decode cX11_layRuns 39 = .ok (.aload_n 0, 1) := by decide +kernel
theorem dX11_layRuns_40 : decode cX11_layRuns 40 = .ok (.getfield 25, 3) := by decide +kernel
theorem dX11_layRuns_43 : decode cX11_layRuns 43 = .ok (.iconst 4, 1) := by decide +kernel
theorem dX11_layRuns_44 : decode cX11_layRuns 44 = .ok (.iload_n 1, 1) := by decide +kernel
theorem dX11_layRuns_45 : decode cX11_layRuns 45 = .ok (.imul, 1) := by decide +kernel
theorem dX11_layRuns_46 : decode cX11_layRuns 46 = .ok (.iconst 3, 1) := by decide +kernel
theorem dX11_layRuns_47 : decode cX11_layRuns 47 = .ok (.iadd, 1) := by decide +kernel
theorem dX11_layRuns_48 : decode cX11_layRuns 48 = .ok (.iaload, 1) := by decide +kernel
theorem dX11_layRuns_49 : decode cX11_layRuns 49 = .ok (.if_icmp .gt 145, 3) := by decide +kernel
theorem dX11_layRuns_52 : decode cX11_layRuns 52 = .ok (.aload_n 0, 1) := by decide +kernel
theorem dX11_layRuns_53 : decode cX11_layRuns 53 = .ok (.iload_n 2, 1) := by decide +kernel
theorem dX11_layRuns_54 : decode cX11_layRuns 54 = .ok (.iload 5, 2) := by decide +kernel
theorem dX11_layRuns_56 : decode cX11_layRuns 56 = .ok (.invokevirtual 203, 3) := by decide +kernel
theorem dX11_layRuns_59 : decode cX11_layRuns 59 = .ok (.iload 4, 2) := by decide +kernel
theorem dX11_layRuns_61 : decode cX11_layRuns 61 = .ok (.iand, 1) := by decide +kernel
theorem dX11_layRuns_62 : decode cX11_layRuns 62 = .ok (.istore 6, 2) := by decide +kernel
theorem dX11_layRuns_64 : decode cX11_layRuns 64 = .ok (.iconst 0, 1) := by decide +kernel
theorem dX11_layRuns_65 : decode cX11_layRuns 65 = .ok (.istore 7, 2) := by decide +kernel
theorem dX11_layRuns_67 : decode cX11_layRuns 67 = .ok (.iload 7, 2) := by decide +kernel
theorem dX11_layRuns_69 : decode cX11_layRuns 69 = .ok (.bipush 10, 2) := by decide +kernel
theorem dX11_layRuns_71 : decode cX11_layRuns 71 = .ok (.if_icmp .ge 117, 3) := by decide +kernel
theorem dX11_layRuns_74 : decode cX11_layRuns 74 = .ok (.iload 6, 2) := by decide +kernel
theorem dX11_layRuns_76 : decode cX11_layRuns 76 = .ok (.iload 7, 2) := by decide +kernel
theorem dX11_layRuns_78 : decode cX11_layRuns 78 = .ok (.ishr, 1) := by decide +kernel
theorem dX11_layRuns_79 : decode cX11_layRuns 79 = .ok (.iconst 1, 1) := by decide +kernel
theorem dX11_layRuns_80 : decode cX11_layRuns 80 = .ok (.iand, 1) := by decide +kernel
theorem dX11_layRuns_81 : decode cX11_layRuns 81 = .ok (.iconst 1, 1) := by decide +kernel
theorem dX11_layRuns_82 : decode cX11_layRuns 82 = .ok (.if_icmp .ne 7, 3) := by decide +kernel
theorem dX11_layRuns_85 : decode cX11_layRuns 85 = .ok (.iconst 1, 1) := by decide +kernel
theorem dX11_layRuns_86 : decode cX11_layRuns 86 = .ok (.goto 4, 3) := by decide +kernel
theorem dX11_layRuns_89 : decode cX11_layRuns 89 = .ok (.iconst 0, 1) := by decide +kernel
theorem dX11_layRuns_90 : decode cX11_layRuns 90 = .ok (.istore 8, 2) := by decide +kernel
theorem dX11_layRuns_92 : decode cX11_layRuns 92 = .ok (.iload 7, 2) := by decide +kernel
theorem dX11_layRuns_94 : decode cX11_layRuns 94 = .ok (.ifCond .le 20, 3) := by decide +kernel
theorem dX11_layRuns_97 : decode cX11_layRuns 97 = .ok (.iload 6, 2) := by decide +kernel
theorem dX11_layRuns_99 : decode cX11_layRuns 99 = .ok (.iload 7, 2) := by decide +kernel
theorem dX11_layRuns_101 : decode cX11_layRuns 101 = .ok (.iconst 1, 1) := by decide +kernel
theorem dX11_layRuns_102 : decode cX11_layRuns 102 = .ok (.isub, 1) := by decide +kernel
theorem dX11_layRuns_103 : decode cX11_layRuns 103 = .ok (.ishr, 1) := by decide +kernel
theorem dX11_layRuns_104 : decode cX11_layRuns 104 = .ok (.iconst 1, 1) := by decide +kernel
theorem dX11_layRuns_105 : decode cX11_layRuns 105 = .ok (.iand, 1) := by decide +kernel
theorem dX11_layRuns_106 : decode cX11_layRuns 106 = .ok (.iconst 1, 1) := by decide +kernel
theorem dX11_layRuns_107 : decode cX11_layRuns 107 = .ok (.if_icmp .ne 7, 3) := by decide +kernel
theorem dX11_layRuns_110 : decode cX11_layRuns 110 = .ok (.iconst 1, 1) := by decide +kernel
theorem dX11_layRuns_111 : decode cX11_layRuns 111 = .ok (.goto 4, 3) := by decide +kernel
theorem dX11_layRuns_114 : decode cX11_layRuns 114 = .ok (.iconst 0, 1) := by decide +kernel
theorem dX11_layRuns_115 : decode cX11_layRuns 115 = .ok (.istore 9, 2) := by decide +kernel
theorem dX11_layRuns_117 : decode cX11_layRuns 117 = .ok (.iload 8, 2) := by decide +kernel
theorem dX11_layRuns_119 : decode cX11_layRuns 119 = .ok (.ifCond .eq 44, 3) := by decide +kernel
theorem dX11_layRuns_122 : decode cX11_layRuns 122 = .ok (.iload 9, 2) := by decide +kernel
theorem dX11_layRuns_124 : decode cX11_layRuns 124 = .ok (.ifCond .ne 39, 3) := by decide +kernel
theorem dX11_layRuns_127 : decode cX11_layRuns 127 = .ok (.aload_n 0, 1) := by decide +kernel
theorem dX11_layRuns_128 : decode cX11_layRuns 128 = .ok (.getfield 40, 3) := by decide +kernel
theorem dX11_layRuns_131 : decode cX11_layRuns 131 = .ok (.iconst 3, 1) := by decide +kernel
theorem dX11_layRuns_132 : decode cX11_layRuns 132 = .ok (.iload_n 3, 1) := by decide +kernel
theorem dX11_layRuns_133 : decode cX11_layRuns 133 = .ok (.imul, 1) := by decide +kernel
theorem dX11_layRuns_134 : decode cX11_layRuns 134 = .ok (.iload 5, 2) := by decide +kernel
theorem dX11_layRuns_136 : decode cX11_layRuns 136 = .ok (.iastore, 1) := by decide +kernel
theorem dX11_layRuns_137 : decode cX11_layRuns 137 = .ok (.aload_n 0, 1) := by decide +kernel
theorem dX11_layRuns_138 : decode cX11_layRuns 138 = .ok (.getfield 40, 3) := by decide +kernel
theorem dX11_layRuns_141 : decode cX11_layRuns 141 = .ok (.iconst 3, 1) := by decide +kernel
theorem dX11_layRuns_142 : decode cX11_layRuns 142 = .ok (.iload_n 3, 1) := by decide +kernel
theorem dX11_layRuns_143 : decode cX11_layRuns 143 = .ok (.imul, 1) := by decide +kernel
theorem dX11_layRuns_144 : decode cX11_layRuns 144 = .ok (.iconst 1, 1) := by decide +kernel
theorem dX11_layRuns_145 : decode cX11_layRuns 145 = .ok (.iadd, 1) := by decide +kernel
theorem dX11_layRuns_146 : decode cX11_layRuns 146 = .ok (.iload 7, 2) := by decide +kernel
theorem dX11_layRuns_148 : decode cX11_layRuns 148 = .ok (.iastore, 1) := by decide +kernel
theorem dX11_layRuns_149 : decode cX11_layRuns 149 = .ok (.aload_n 0, 1) := by decide +kernel
theorem dX11_layRuns_150 : decode cX11_layRuns 150 = .ok (.getfield 40, 3) := by decide +kernel
theorem dX11_layRuns_153 : decode cX11_layRuns 153 = .ok (.iconst 3, 1) := by decide +kernel
theorem dX11_layRuns_154 : decode cX11_layRuns 154 = .ok (.iload_n 3, 1) := by decide +kernel
theorem dX11_layRuns_155 : decode cX11_layRuns 155 = .ok (.imul, 1) := by decide +kernel
theorem dX11_layRuns_156 : decode cX11_layRuns 156 = .ok (.iconst 2, 1) := by decide +kernel
theorem dX11_layRuns_157 : decode cX11_layRuns 157 = .ok (.iadd, 1) := by decide +kernel
theorem dX11_layRuns_158 : decode cX11_layRuns 158 = .ok (.iconst 0, 1) := by decide +kernel
theorem dX11_layRuns_159 : decode cX11_layRuns 159 = .ok (.iastore, 1) := by decide +kernel
theorem dX11_layRuns_160 : decode cX11_layRuns 160 = .ok (.iinc 3 1, 3) := by decide +kernel
theorem dX11_layRuns_163 : decode cX11_layRuns 163 = .ok (.iload 8, 2) := by decide +kernel
theorem dX11_layRuns_165 : decode cX11_layRuns 165 = .ok (.ifCond .eq 17, 3) := by decide +kernel
theorem dX11_layRuns_168 : decode cX11_layRuns 168 = .ok (.aload_n 0, 1) := by decide +kernel
theorem dX11_layRuns_169 : decode cX11_layRuns 169 = .ok (.getfield 40, 3) := by decide +kernel
theorem dX11_layRuns_172 : decode cX11_layRuns 172 = .ok (.iconst 3, 1) := by decide +kernel
theorem dX11_layRuns_173 : decode cX11_layRuns 173 = .ok (.iload_n 3, 1) := by decide +kernel
theorem dX11_layRuns_174 : decode cX11_layRuns 174 = .ok (.imul, 1) := by decide +kernel
theorem dX11_layRuns_175 : decode cX11_layRuns 175 = .ok (.iconst 1, 1) := by decide +kernel
theorem dX11_layRuns_176 : decode cX11_layRuns 176 = .ok (.isub, 1) := by decide +kernel
theorem dX11_layRuns_177 : decode cX11_layRuns 177 = .ok (.dup2, 1) := by decide +kernel
theorem dX11_layRuns_178 : decode cX11_layRuns 178 = .ok (.iaload, 1) := by decide +kernel
theorem dX11_layRuns_179 : decode cX11_layRuns 179 = .ok (.iconst 1, 1) := by decide +kernel
theorem dX11_layRuns_180 : decode cX11_layRuns 180 = .ok (.iadd, 1) := by decide +kernel
theorem dX11_layRuns_181 : decode cX11_layRuns 181 = .ok (.iastore, 1) := by decide +kernel
theorem dX11_layRuns_182 : decode cX11_layRuns 182 = .ok (.iinc 7 1, 3) := by decide +kernel
theorem dX11_layRuns_185 : decode cX11_layRuns 185 = .ok (.goto (-118), 3) := by decide +kernel
theorem dX11_layRuns_188 : decode cX11_layRuns 188 = .ok (.iinc 5 1, 3) := by decide +kernel
theorem dX11_layRuns_191 : decode cX11_layRuns 191 = .ok (.goto (-154), 3) := by decide +kernel
theorem dX11_layRuns_194 : decode cX11_layRuns 194 = .ok (.iload_n 3, 1) := by decide +kernel
theorem dX11_layRuns_195 : decode cX11_layRuns 195 = .ok (.ireturn, 1) := by decide +kernel
theorem dX11_runs_0 : decode cX11_runs 0 = .ok (.aload_n 0, 1) := by decide +kernel
theorem dX11_runs_1 : decode cX11_runs 1 = .ok (.iload_n 1, 1) := by decide +kernel
theorem dX11_runs_2 : decode cX11_runs 2 = .ok (.invokevirtual 163, 3) := by decide +kernel
theorem dX11_runs_5 : decode cX11_runs 5 = .ok (.ifCond .ne 5, 3) := by decide +kernel
theorem dX11_runs_8 : decode cX11_runs 8 = .ok (.iconst (-1), 1) := by decide +kernel
theorem dX11_runs_9 : decode cX11_runs 9 = .ok (.ireturn, 1) := by decide +kernel
theorem dX11_runs_10 : decode cX11_runs 10 = .ok (.iload_n 2, 1) := by decide +kernel
theorem dX11_runs_11 : decode cX11_runs 11 = .ok (.invokestatic 200, 3) := by decide +kernel
theorem dX11_runs_14 : decode cX11_runs 14 = .ok (.ifCond .eq 12, 3) := by decide +kernel
theorem dX11_runs_17 : decode cX11_runs 17 = .ok (.aload_n 0, 1) := by decide +kernel
theorem dX11_runs_18 : decode cX11_runs 18 = .ok (.iload_n 1, 1) := by decide +kernel
theorem dX11_runs_19 : decode cX11_runs 19 = .ok (.iload_n 2, 1) := by decide +kernel
theorem dX11_runs_20 : decode cX11_runs 20 = .ok (.invokevirtual 206, 3) := by decide +kernel
theorem dX11_runs_23 : decode cX11_runs 23 = .ok (.goto 5, 3) := by decide +kernel
theorem dX11_runs_26 : decode cX11_runs 26 = .ok (.bipush (-2), 2) := by decide +kernel
theorem dX11_runs_28 : decode cX11_runs 28 = .ok (.ireturn, 1) := by decide +kernel
theorem dX11_run_0 : decode cX11_run 0 = .ok (.aload_n 0, 1) := by decide +kernel
theorem dX11_run_1 : decode cX11_run 1 = .ok (.iload_n 1, 1) := by decide +kernel
theorem dX11_run_2 : decode cX11_run 2 = .ok (.invokevirtual 163, 3) := by decide +kernel
theorem dX11_run_5 : decode cX11_run 5 = .ok (.ifCond .ne 5, 3) := by decide +kernel
theorem dX11_run_8 : decode cX11_run 8 = .ok (.iconst (-1), 1) := by decide +kernel
theorem dX11_run_9 : decode cX11_run 9 = .ok (.ireturn, 1) := by decide +kernel
theorem dX11_run_10 : decode cX11_run 10 = .ok (.iload_n 2, 1) := by decide +kernel
theorem dX11_run_11 : decode cX11_run 11 = .ok (.invokestatic 200, 3) := by decide +kernel
theorem dX11_run_14 : decode cX11_run 14 = .ok (.ifCond .eq 16, 3) := by decide +kernel
theorem dX11_run_17 : decode cX11_run 17 = .ok (.iload 4, 2) := by decide +kernel
theorem dX11_run_19 : decode cX11_run 19 = .ok (.i2l, 1) := by decide +kernel
theorem dX11_run_20 : decode cX11_run 20 = .ok (.lconst 0, 1) := by decide +kernel
theorem dX11_run_21 : decode cX11_run 21 = .ok (.ldc2_w 209, 3) := by decide +kernel
theorem dX11_run_24 : decode cX11_run 24 = .ok (.invokestatic 77, 3) := by decide +kernel
theorem dX11_run_27 : decode cX11_run 27 = .ok (.ifCond .ne 6, 3) := by decide +kernel
theorem dX11_run_30 : decode cX11_run 30 = .ok (.bipush (-2), 2) := by decide +kernel
theorem dX11_run_32 : decode cX11_run 32 = .ok (.ireturn, 1) := by decide +kernel
theorem dX11_run_33 : decode cX11_run 33 = .ok (.iload_n 3, 1) := by decide +kernel
theorem dX11_run_34 : decode cX11_run 34 = .ok (.i2l, 1) := by decide +kernel
theorem dX11_run_35 : decode cX11_run 35 = .ok (.lconst 0, 1) := by decide +kernel
theorem dX11_run_36 : decode cX11_run 36 = .ok (.aload_n 0, 1) := by decide +kernel
theorem dX11_run_37 : decode cX11_run 37 = .ok (.iload_n 1, 1) := by decide +kernel
theorem dX11_run_38 : decode cX11_run 38 = .ok (.iload_n 2, 1) := by decide +kernel
theorem dX11_run_39 : decode cX11_run 39 = .ok (.invokevirtual 206, 3) := by decide +kernel
theorem dX11_run_42 : decode cX11_run 42 = .ok (.iconst 1, 1) := by decide +kernel
theorem dX11_run_43 : decode cX11_run 43 = .ok (.isub, 1) := by decide +kernel
theorem dX11_run_44 : decode cX11_run 44 = .ok (.i2l, 1) := by decide +kernel
theorem dX11_run_45 : decode cX11_run 45 = .ok (.invokestatic 77, 3) := by decide +kernel
theorem dX11_run_48 : decode cX11_run 48 = .ok (.ifCond .eq 17, 3) := by decide +kernel
theorem dX11_run_51 : decode cX11_run 51 = .ok (.aload_n 0, 1) := by decide +kernel
theorem dX11_run_52 : decode cX11_run 52 = .ok (.getfield 40, 3) := by decide +kernel
theorem dX11_run_55 : decode cX11_run 55 = .ok (.iconst 3, 1) := by decide +kernel
theorem dX11_run_56 : decode cX11_run 56 = .ok (.iload_n 3, 1) := by decide +kernel
theorem dX11_run_57 : decode cX11_run 57 = .ok (.imul, 1) := by decide +kernel
theorem dX11_run_58 : decode cX11_run 58 = .ok (.iload 4, 2) := by decide +kernel
theorem dX11_run_60 : decode cX11_run 60 = .ok (.iadd, 1) := by decide +kernel
theorem dX11_run_61 : decode cX11_run 61 = .ok (.iaload, 1) := by decide +kernel
theorem dX11_run_62 : decode cX11_run 62 = .ok (.goto 5, 3) := by decide +kernel
theorem dX11_run_65 : decode cX11_run 65 = .ok (.bipush (-9), 2) := by decide +kernel
theorem dX11_run_67 : decode cX11_run 67 = .ok (.ireturn, 1) := by decide +kernel
theorem dX11_alone_0 : decode cX11_alone 0 = .ok (.iload_n 1, 1) := by decide +kernel
theorem dX11_alone_1 : decode cX11_alone 1 = .ok (.invokestatic 200, 3) := by decide +kernel
theorem dX11_alone_4 : decode cX11_alone 4 = .ok (.ifCond .ne 6, 3) := by decide +kernel
theorem dX11_alone_7 : decode cX11_alone 7 = .ok (.bipush (-2), 2) := by decide +kernel
theorem dX11_alone_9 : decode cX11_alone 9 = .ok (.ireturn, 1) := by decide +kernel
theorem dX11_alone_10 : decode cX11_alone 10 = .ok (.iconst 0, 1) := by decide +kernel
theorem dX11_alone_11 : decode cX11_alone 11 = .ok (.istore_n 2, 1) := by decide +kernel
theorem dX11_alone_12 : decode cX11_alone 12 = .ok (.iconst 0, 1) := by decide +kernel
theorem dX11_alone_13 : decode cX11_alone 13 = .ok (.istore_n 3, 1) := by decide +kernel
theorem dX11_alone_14 : decode cX11_alone 14 = .ok (.iload_n 3, 1) := by decide +kernel
theorem dX11_alone_15 : decode cX11_alone 15 = .ok (.aload_n 0, 1) := by decide +kernel
theorem dX11_alone_16 : decode cX11_alone 16 = .ok (.getfield 71, 3) := by decide +kernel
theorem dX11_alone_19 : decode cX11_alone 19 = .ok (.if_icmp .ge 156, 3) := by decide +kernel
theorem dX11_alone_22 : decode cX11_alone 22 = .ok (.aload_n 0, 1) := by decide +kernel
theorem dX11_alone_23 : decode cX11_alone 23 = .ok (.getfield 22, 3) := by decide +kernel
theorem dX11_alone_26 : decode cX11_alone 26 = .ok (.iconst 3, 1) := by decide +kernel
theorem dX11_alone_27 : decode cX11_alone 27 = .ok (.iload_n 3, 1) := by decide +kernel
theorem dX11_alone_28 : decode cX11_alone 28 = .ok (.imul, 1) := by decide +kernel
theorem dX11_alone_29 : decode cX11_alone 29 = .ok (.iconst 2, 1) := by decide +kernel
theorem dX11_alone_30 : decode cX11_alone 30 = .ok (.iadd, 1) := by decide +kernel
theorem dX11_alone_31 : decode cX11_alone 31 = .ok (.iaload, 1) := by decide +kernel
theorem dX11_alone_32 : decode cX11_alone 32 = .ok (.istore 4, 2) := by decide +kernel
theorem dX11_alone_34 : decode cX11_alone 34 = .ok (.aload_n 0, 1) := by decide +kernel
theorem dX11_alone_35 : decode cX11_alone 35 = .ok (.getfield 22, 3) := by decide +kernel
theorem dX11_alone_38 : decode cX11_alone 38 = .ok (.iconst 3, 1) := by decide +kernel
theorem dX11_alone_39 : decode cX11_alone 39 = .ok (.iload_n 3, 1) := by decide +kernel
theorem dX11_alone_40 : decode cX11_alone 40 = .ok (.imul, 1) := by decide +kernel
theorem dX11_alone_41 : decode cX11_alone 41 = .ok (.iaload, 1) := by decide +kernel
theorem dX11_alone_42 : decode cX11_alone 42 = .ok (.invokestatic 157, 3) := by decide +kernel
theorem dX11_alone_45 : decode cX11_alone 45 = .ok (.aload_n 0, 1) := by decide +kernel
theorem dX11_alone_46 : decode cX11_alone 46 = .ok (.getfield 22, 3) := by decide +kernel
theorem dX11_alone_49 : decode cX11_alone 49 = .ok (.iconst 3, 1) := by decide +kernel
theorem dX11_alone_50 : decode cX11_alone 50 = .ok (.iload_n 3, 1) := by decide +kernel
theorem dX11_alone_51 : decode cX11_alone 51 = .ok (.imul, 1) := by decide +kernel
theorem dX11_alone_52 : decode cX11_alone 52 = .ok (.iconst 1, 1) := by decide +kernel
theorem dX11_alone_53 : decode cX11_alone 53 = .ok (.iadd, 1) := by decide +kernel
theorem dX11_alone_54 : decode cX11_alone 54 = .ok (.iaload, 1) := by decide +kernel
theorem dX11_alone_55 : decode cX11_alone 55 = .ok (.iload_n 1, 1) := by decide +kernel
theorem dX11_alone_56 : decode cX11_alone 56 = .ok (.invokestatic 193, 3) := by decide +kernel
theorem dX11_alone_59 : decode cX11_alone 59 = .ok (.aload_n 0, 1) := by decide +kernel
theorem dX11_alone_60 : decode cX11_alone 60 = .ok (.iload_n 1, 1) := by decide +kernel
theorem dX11_alone_61 : decode cX11_alone 61 = .ok (.iload 4, 2) := by decide +kernel
theorem dX11_alone_63 : decode cX11_alone 63 = .ok (.invokevirtual 197, 3) := by decide +kernel
theorem dX11_alone_66 : decode cX11_alone 66 = .ok (.iand, 1) := by decide +kernel
theorem dX11_alone_67 : decode cX11_alone 67 = .ok (.istore 5, 2) := by decide +kernel
theorem dX11_alone_69 : decode cX11_alone 69 = .ok (.iconst 0, 1) := by decide +kernel
theorem dX11_alone_70 : decode cX11_alone 70 = .ok (.istore 6, 2) := by decide +kernel
theorem dX11_alone_72 : decode cX11_alone 72 = .ok (.iconst 0, 1) := by decide +kernel
theorem dX11_alone_73 : decode cX11_alone 73 = .ok (.istore 7, 2) := by decide +kernel
theorem dX11_alone_75 : decode cX11_alone 75 = .ok (.iload 7, 2) := by decide +kernel
theorem dX11_alone_77 : decode cX11_alone 77 = .ok (.aload_n 0, 1) := by decide +kernel
theorem dX11_alone_78 : decode cX11_alone 78 = .ok (.getfield 71, 3) := by decide +kernel
theorem dX11_alone_81 : decode cX11_alone 81 = .ok (.if_icmp .ge 67, 3) := by decide +kernel
theorem dX11_alone_84 : decode cX11_alone 84 = .ok (.iload 6, 2) := by decide +kernel
theorem dX11_alone_86 : decode cX11_alone 86 = .ok (.iload 7, 2) := by decide +kernel
theorem dX11_alone_88 : decode cX11_alone 88 = .ok (.iload_n 3, 1) := by decide +kernel
theorem dX11_alone_89 : decode cX11_alone 89 = .ok (.if_icmp .eq 49, 3) := by decide +kernel
theorem dX11_alone_92 : decode cX11_alone 92 = .ok (.aload_n 0, 1) := by decide +kernel
theorem dX11_alone_93 : decode cX11_alone 93 = .ok (.getfield 22, 3) := by decide +kernel
theorem dX11_alone_96 : decode cX11_alone 96 = .ok (.iconst 3, 1) := by decide +kernel
theorem dX11_alone_97 : decode cX11_alone 97 = .ok (.iload 7, 2) := by decide +kernel
theorem dX11_alone_99 : decode cX11_alone 99 = .ok (.imul, 1) := by decide +kernel
theorem dX11_alone_100 : decode cX11_alone 100 = .ok (.iconst 2, 1) := by decide +kernel
theorem dX11_alone_101 : decode cX11_alone 101 = .ok (.iadd, 1) := by decide +kernel
theorem dX11_alone_102 : decode cX11_alone 102 = .ok (.iaload, 1) := by decide +kernel
theorem dX11_alone_103 : decode cX11_alone 103 = .ok (.iload 4, 2) := by decide +kernel
theorem dX11_alone_105 : decode cX11_alone 105 = .ok (.if_icmp .ne 33, 3) := by decide +kernel
theorem dX11_alone_108 : decode cX11_alone 108 = .ok (.aload_n 0, 1) := by decide +kernel
theorem dX11_alone_109 : decode cX11_alone 109 = .ok (.getfield 22, 3) := by decide +kernel
theorem dX11_alone_112 : decode cX11_alone 112 = .ok (.iconst 3, 1) := by decide +kernel
theorem dX11_alone_113 : decode cX11_alone 113 = .ok (.iload 7, 2) := by decide +kernel
theorem dX11_alone_115 : decode cX11_alone 115 = .ok (.imul, 1) := by decide +kernel
theorem dX11_alone_116 : decode cX11_alone 116 = .ok (.iaload, 1) := by decide +kernel
theorem dX11_alone_117 : decode cX11_alone 117 = .ok (.invokestatic 157, 3) := by decide +kernel
theorem dX11_alone_120 : decode cX11_alone 120 = .ok (.aload_n 0, 1) := by decide +kernel
theorem dX11_alone_121 : decode cX11_alone 121 = .ok (.getfield 22, 3) := by decide +kernel
theorem dX11_alone_124 : decode cX11_alone 124 = .ok (.iconst 3, 1) := by decide +kernel
theorem dX11_alone_125 : decode cX11_alone 125 = .ok (.iload 7, 2) := by decide +kernel
theorem dX11_alone_127 : decode cX11_alone 127 = .ok (.imul, 1) := by decide +kernel
theorem dX11_alone_128 : decode cX11_alone 128 = .ok (.iconst 1, 1) := by decide +kernel
theorem dX11_alone_129 : decode cX11_alone 129 = .ok (.iadd, 1) := by decide +kernel
theorem dX11_alone_130 : decode cX11_alone 130 = .ok (.iaload, 1) := by decide +kernel
theorem dX11_alone_131 : decode cX11_alone 131 = .ok (.iload_n 1, 1) := by decide +kernel
theorem dX11_alone_132 : decode cX11_alone 132 = .ok (.invokestatic 193, 3) := by decide +kernel
theorem dX11_alone_135 : decode cX11_alone 135 = .ok (.goto 4, 3) := by decide +kernel
theorem dX11_alone_138 : decode cX11_alone 138 = .ok (.iconst 0, 1) := by decide +kernel
theorem dX11_alone_139 : decode cX11_alone 139 = .ok (.ior, 1) := by decide +kernel
theorem dX11_alone_140 : decode cX11_alone 140 = .ok (.istore 6, 2) := by decide +kernel
theorem dX11_alone_142 : decode cX11_alone 142 = .ok (.iinc 7 1, 3) := by decide +kernel
theorem dX11_alone_145 : decode cX11_alone 145 = .ok (.goto (-70), 3) := by decide +kernel
theorem dX11_alone_148 : decode cX11_alone 148 = .ok (.iload_n 2, 1) := by decide +kernel
theorem dX11_alone_149 : decode cX11_alone 149 = .ok (.iload 5, 2) := by decide +kernel
theorem dX11_alone_151 : decode cX11_alone 151 = .ok (.ifCond .eq 15, 3) := by decide +kernel
theorem dX11_alone_154 : decode cX11_alone 154 = .ok (.iload 5, 2) := by decide +kernel
theorem dX11_alone_156 : decode cX11_alone 156 = .ok (.iload 6, 2) := by decide +kernel
theorem dX11_alone_158 : decode cX11_alone 158 = .ok (.iand, 1) := by decide +kernel
theorem dX11_alone_159 : decode cX11_alone 159 = .ok (.ifCond .ne 7, 3) := by decide +kernel
theorem dX11_alone_162 : decode cX11_alone 162 = .ok (.iconst 1, 1) := by decide +kernel
theorem dX11_alone_163 : decode cX11_alone 163 = .ok (.goto 4, 3) := by decide +kernel
theorem dX11_alone_166 : decode cX11_alone 166 = .ok (.iconst 0, 1) := by decide +kernel
theorem dX11_alone_167 : decode cX11_alone 167 = .ok (.iadd, 1) := by decide +kernel
theorem dX11_alone_168 : decode cX11_alone 168 = .ok (.istore_n 2, 1) := by decide +kernel
theorem dX11_alone_169 : decode cX11_alone 169 = .ok (.iinc 3 1, 3) := by decide +kernel
theorem dX11_alone_172 : decode cX11_alone 172 = .ok (.goto (-158), 3) := by decide +kernel
theorem dX11_alone_175 : decode cX11_alone 175 = .ok (.iload_n 2, 1) := by decide +kernel
theorem dX11_alone_176 : decode cX11_alone 176 = .ok (.ireturn, 1) := by decide +kernel
theorem dX11_countedOf_0 : decode cX11_countedOf 0 = .ok (.aload_n 0, 1) := by decide +kernel
theorem dX11_countedOf_1 : decode cX11_countedOf 1 = .ok (.iload_n 1, 1) := by decide +kernel
theorem dX11_countedOf_2 : decode cX11_countedOf 2 = .ok (.iload_n 2, 1) := by decide +kernel
theorem dX11_countedOf_3 : decode cX11_countedOf 3 = .ok (.invokevirtual 206, 3) := by decide +kernel
theorem dX11_countedOf_6 : decode cX11_countedOf 6 = .ok (.istore_n 3, 1) := by decide +kernel
theorem dX11_countedOf_7 : decode cX11_countedOf 7 = .ok (.bipush 6, 2) := by decide +kernel
theorem dX11_countedOf_9 : decode cX11_countedOf 9 = .ok (.iload_n 2, 1) := by decide +kernel
theorem dX11_countedOf_10 : decode cX11_countedOf 10 = .ok (.invokestatic 190, 3) := by decide +kernel
theorem dX11_countedOf_13 : decode cX11_countedOf 13 = .ok (.istore 4, 2) := by decide +kernel
theorem dX11_countedOf_15 : decode cX11_countedOf 15 = .ok (.iconst 0, 1) := by decide +kernel
theorem dX11_countedOf_16 : decode cX11_countedOf 16 = .ok (.istore 5, 2) := by decide +kernel
theorem dX11_countedOf_18 : decode cX11_countedOf 18 = .ok (.iconst 0, 1) := by decide +kernel
theorem dX11_countedOf_19 : decode cX11_countedOf 19 = .ok (.istore 6, 2) := by decide +kernel
theorem dX11_countedOf_21 : decode cX11_countedOf 21 = .ok (.iload 6, 2) := by decide +kernel
theorem dX11_countedOf_23 : decode cX11_countedOf 23 = .ok (.iload_n 3, 1) := by decide +kernel
theorem dX11_countedOf_24 : decode cX11_countedOf 24 = .ok (.if_icmp .ge 61, 3) := by decide +kernel
theorem dX11_countedOf_27 : decode cX11_countedOf 27 = .ok (.aload_n 0, 1) := by decide +kernel
theorem dX11_countedOf_28 : decode cX11_countedOf 28 = .ok (.getfield 40, 3) := by decide +kernel
theorem dX11_countedOf_31 : decode cX11_countedOf 31 = .ok (.iconst 3, 1) := by decide +kernel
theorem dX11_countedOf_32 : decode cX11_countedOf 32 = .ok (.iload 6, 2) := by decide +kernel
theorem dX11_countedOf_34 : decode cX11_countedOf 34 = .ok (.imul, 1) := by decide +kernel
theorem dX11_countedOf_35 : decode cX11_countedOf 35 = .ok (.iconst 2, 1) := by decide +kernel
theorem dX11_countedOf_36 : decode cX11_countedOf 36 = .ok (.iadd, 1) := by decide +kernel
theorem dX11_countedOf_37 : decode cX11_countedOf 37 = .ok (.iaload, 1) := by decide +kernel
theorem dX11_countedOf_38 : decode cX11_countedOf 38 = .ok (.istore 7, 2) := by decide +kernel
theorem dX11_countedOf_40 : decode cX11_countedOf 40 = .ok (.iload 5, 2) := by decide +kernel
theorem dX11_countedOf_42 : decode cX11_countedOf 42 = .ok (.iload 7, 2) := by decide +kernel
theorem dX11_countedOf_44 : decode cX11_countedOf 44 = .ok (.iload 4, 2) := by decide +kernel
theorem dX11_countedOf_46 : decode cX11_countedOf 46 = .ok (.if_icmp .gt 7, 3) := by decide +kernel
theorem dX11_countedOf_49 : decode cX11_countedOf 49 = .ok (.iconst 1, 1) := by decide +kernel
theorem dX11_countedOf_50 : decode cX11_countedOf 50 = .ok (.goto 26, 3) := by decide +kernel
theorem dX11_countedOf_53 : decode cX11_countedOf 53 = .ok (.iload 7, 2) := by decide +kernel
theorem dX11_countedOf_55 : decode cX11_countedOf 55 = .ok (.iload 4, 2) := by decide +kernel
theorem dX11_countedOf_57 : decode cX11_countedOf 57 = .ok (.idiv, 1) := by decide +kernel
theorem dX11_countedOf_58 : decode cX11_countedOf 58 = .ok (.iconst 2, 1) := by decide +kernel
theorem dX11_countedOf_59 : decode cX11_countedOf 59 = .ok (.iload 7, 2) := by decide +kernel
theorem dX11_countedOf_61 : decode cX11_countedOf 61 = .ok (.iload 4, 2) := by decide +kernel
theorem dX11_countedOf_63 : decode cX11_countedOf 63 = .ok (.irem, 1) := by decide +kernel
theorem dX11_countedOf_64 : decode cX11_countedOf 64 = .ok (.imul, 1) := by decide +kernel
theorem dX11_countedOf_65 : decode cX11_countedOf 65 = .ok (.iload 4, 2) := by decide +kernel
theorem dX11_countedOf_67 : decode cX11_countedOf 67 = .ok (.if_icmp .le 7, 3) := by decide +kernel
theorem dX11_countedOf_70 : decode cX11_countedOf 70 = .ok (.iconst 1, 1) := by decide +kernel
theorem dX11_countedOf_71 : decode cX11_countedOf 71 = .ok (.goto 4, 3) := by decide +kernel
theorem dX11_countedOf_74 : decode cX11_countedOf 74 = .ok (.iconst 0, 1) := by decide +kernel
theorem dX11_countedOf_75 : decode cX11_countedOf 75 = .ok (.iadd, 1) := by decide +kernel
theorem dX11_countedOf_76 : decode cX11_countedOf 76 = .ok (.iadd, 1) := by decide +kernel
theorem dX11_countedOf_77 : decode cX11_countedOf 77 = .ok (.istore 5, 2) := by decide +kernel
theorem dX11_countedOf_79 : decode cX11_countedOf 79 = .ok (.iinc 6 1, 3) := by decide +kernel
theorem dX11_countedOf_82 : decode cX11_countedOf 82 = .ok (.goto (-61), 3) := by decide +kernel
theorem dX11_countedOf_85 : decode cX11_countedOf 85 = .ok (.iload 5, 2) := by decide +kernel
theorem dX11_countedOf_87 : decode cX11_countedOf 87 = .ok (.ireturn, 1) := by decide +kernel
theorem dX11_counted_0 : decode cX11_counted 0 = .ok (.aload_n 0, 1) := by decide +kernel
theorem dX11_counted_1 : decode cX11_counted 1 = .ok (.iload_n 1, 1) := by decide +kernel
theorem dX11_counted_2 : decode cX11_counted 2 = .ok (.invokevirtual 163, 3) := by decide +kernel
theorem dX11_counted_5 : decode cX11_counted 5 = .ok (.ifCond .ne 5, 3) := by decide +kernel
theorem dX11_counted_8 : decode cX11_counted 8 = .ok (.iconst (-1), 1) := by decide +kernel
theorem dX11_counted_9 : decode cX11_counted 9 = .ok (.ireturn, 1) := by decide +kernel
theorem dX11_counted_10 : decode cX11_counted 10 = .ok (.iload_n 2, 1) := by decide +kernel
theorem dX11_counted_11 : decode cX11_counted 11 = .ok (.invokestatic 200, 3) := by decide +kernel
theorem dX11_counted_14 : decode cX11_counted 14 = .ok (.ifCond .eq 12, 3) := by decide +kernel
theorem dX11_counted_17 : decode cX11_counted 17 = .ok (.aload_n 0, 1) := by decide +kernel
theorem dX11_counted_18 : decode cX11_counted 18 = .ok (.iload_n 1, 1) := by decide +kernel
theorem dX11_counted_19 : decode cX11_counted 19 = .ok (.iload_n 2, 1) := by decide +kernel
theorem dX11_counted_20 : decode cX11_counted 20 = .ok (.invokevirtual 211, 3) := by decide +kernel
theorem dX11_counted_23 : decode cX11_counted 23 = .ok (.goto 5, 3) := by decide +kernel
theorem dX11_counted_26 : decode cX11_counted 26 = .ok (.bipush (-2), 2) := by decide +kernel
theorem dX11_counted_28 : decode cX11_counted 28 = .ok (.ireturn, 1) := by decide +kernel
theorem dX11_counts_0 : decode cX11_counts 0 = .ok (.iconst 0, 1) := by decide +kernel
theorem dX11_counts_1 : decode cX11_counts 1 = .ok (.istore_n 1, 1) := by decide +kernel
theorem dX11_counts_2 : decode cX11_counts 2 = .ok (.iconst 0, 1) := by decide +kernel
theorem dX11_counts_3 : decode cX11_counts 3 = .ok (.istore_n 2, 1) := by decide +kernel
theorem dX11_counts_4 : decode cX11_counts 4 = .ok (.iload_n 2, 1) := by decide +kernel
theorem dX11_counts_5 : decode cX11_counts 5 = .ok (.aload_n 0, 1) := by decide +kernel
theorem dX11_counts_6 : decode cX11_counts 6 = .ok (.getfield 71, 3) := by decide +kernel
theorem dX11_counts_9 : decode cX11_counts 9 = .ok (.if_icmp .ge 23, 3) := by decide +kernel
theorem dX11_counts_12 : decode cX11_counts 12 = .ok (.iload_n 1, 1) := by decide +kernel
theorem dX11_counts_13 : decode cX11_counts 13 = .ok (.aload_n 0, 1) := by decide +kernel
theorem dX11_counts_14 : decode cX11_counts 14 = .ok (.getfield 22, 3) := by decide +kernel
theorem dX11_counts_17 : decode cX11_counts 17 = .ok (.iconst 3, 1) := by decide +kernel
theorem dX11_counts_18 : decode cX11_counts 18 = .ok (.iload_n 2, 1) := by decide +kernel
theorem dX11_counts_19 : decode cX11_counts 19 = .ok (.imul, 1) := by decide +kernel
theorem dX11_counts_20 : decode cX11_counts 20 = .ok (.iaload, 1) := by decide +kernel
theorem dX11_counts_21 : decode cX11_counts 21 = .ok (.invokestatic 160, 3) := by decide +kernel
theorem dX11_counts_24 : decode cX11_counts 24 = .ok (.iadd, 1) := by decide +kernel
theorem dX11_counts_25 : decode cX11_counts 25 = .ok (.istore_n 1, 1) := by decide +kernel
theorem dX11_counts_26 : decode cX11_counts 26 = .ok (.iinc 2 1, 3) := by decide +kernel
theorem dX11_counts_29 : decode cX11_counts 29 = .ok (.goto (-25), 3) := by decide +kernel
theorem dX11_counts_32 : decode cX11_counts 32 = .ok (.iload_n 1, 1) := by decide +kernel
theorem dX11_counts_33 : decode cX11_counts 33 = .ok (.ireturn, 1) := by decide +kernel
theorem dX11_best_0 : decode cX11_best 0 = .ok (.aload_n 0, 1) := by decide +kernel
theorem dX11_best_1 : decode cX11_best 1 = .ok (.iload_n 1, 1) := by decide +kernel
theorem dX11_best_2 : decode cX11_best 2 = .ok (.invokevirtual 163, 3) := by decide +kernel
theorem dX11_best_5 : decode cX11_best 5 = .ok (.ifCond .ne 5, 3) := by decide +kernel
theorem dX11_best_8 : decode cX11_best 8 = .ok (.iconst (-1), 1) := by decide +kernel
theorem dX11_best_9 : decode cX11_best 9 = .ok (.ireturn, 1) := by decide +kernel
theorem dX11_best_10 : decode cX11_best 10 = .ok (.iconst 0, 1) := by decide +kernel
theorem dX11_best_11 : decode cX11_best 11 = .ok (.istore_n 2, 1) := by decide +kernel
theorem dX11_best_12 : decode cX11_best 12 = .ok (.iconst 1, 1) := by decide +kernel
theorem dX11_best_13 : decode cX11_best 13 = .ok (.istore_n 3, 1) := by decide +kernel
theorem dX11_best_14 : decode cX11_best 14 = .ok (.iload_n 3, 1) := by decide +kernel
theorem dX11_best_15 : decode cX11_best 15 = .ok (.bipush 16, 2) := by decide +kernel
theorem dX11_best_17 : decode cX11_best 17 = .ok (.if_icmp .ge 46, 3) := by decide +kernel
theorem dX11_best_20 : decode cX11_best 20 = .ok (.aload_n 0, 1) := by decide +kernel
theorem dX11_best_21 : decode cX11_best 21 = .ok (.iload_n 1, 1) := by decide +kernel
theorem dX11_best_22 : decode cX11_best 22 = .ok (.iload_n 3, 1) := by decide +kernel
theorem dX11_best_23 : decode cX11_best 23 = .ok (.invokevirtual 211, 3) := by decide +kernel
theorem dX11_best_26 : decode cX11_best 26 = .ok (.aload_n 0, 1) := by decide +kernel
theorem dX11_best_27 : decode cX11_best 27 = .ok (.invokevirtual 214, 3) := by decide +kernel
theorem dX11_best_30 : decode cX11_best 30 = .ok (.isub, 1) := by decide +kernel
theorem dX11_best_31 : decode cX11_best 31 = .ok (.invokestatic 185, 3) := by decide +kernel
theorem dX11_best_34 : decode cX11_best 34 = .ok (.aload_n 0, 1) := by decide +kernel
theorem dX11_best_35 : decode cX11_best 35 = .ok (.iload_n 1, 1) := by decide +kernel
theorem dX11_best_36 : decode cX11_best 36 = .ok (.iload_n 2, 1) := by decide +kernel
theorem dX11_best_37 : decode cX11_best 37 = .ok (.invokevirtual 211, 3) := by decide +kernel
theorem dX11_best_40 : decode cX11_best 40 = .ok (.aload_n 0, 1) := by decide +kernel
theorem dX11_best_41 : decode cX11_best 41 = .ok (.invokevirtual 214, 3) := by decide +kernel
theorem dX11_best_44 : decode cX11_best 44 = .ok (.isub, 1) := by decide +kernel
theorem dX11_best_45 : decode cX11_best 45 = .ok (.invokestatic 185, 3) := by decide +kernel
theorem dX11_best_48 : decode cX11_best 48 = .ok (.if_icmp .ge 7, 3) := by decide +kernel
theorem dX11_best_51 : decode cX11_best 51 = .ok (.iload_n 3, 1) := by decide +kernel
theorem dX11_best_52 : decode cX11_best 52 = .ok (.goto 4, 3) := by decide +kernel
theorem dX11_best_55 : decode cX11_best 55 = .ok (.iload_n 2, 1) := by decide +kernel
theorem dX11_best_56 : decode cX11_best 56 = .ok (.istore_n 2, 1) := by decide +kernel
theorem dX11_best_57 : decode cX11_best 57 = .ok (.iinc 3 1, 3) := by decide +kernel
theorem dX11_best_60 : decode cX11_best 60 = .ok (.goto (-46), 3) := by decide +kernel
theorem dX11_best_63 : decode cX11_best 63 = .ok (.iload_n 2, 1) := by decide +kernel
theorem dX11_best_64 : decode cX11_best 64 = .ok (.ireturn, 1) := by decide +kernel
theorem dX11_isHidden_0 : decode cX11_isHidden 0 = .ok (.aload_n 0, 1) := by decide +kernel
theorem dX11_isHidden_1 : decode cX11_isHidden 1 = .ok (.iload_n 1, 1) := by decide +kernel
theorem dX11_isHidden_2 : decode cX11_isHidden 2 = .ok (.iload_n 3, 1) := by decide +kernel
theorem dX11_isHidden_3 : decode cX11_isHidden 3 = .ok (.invokevirtual 203, 3) := by decide +kernel
theorem dX11_isHidden_6 : decode cX11_isHidden 6 = .ok (.istore 4, 2) := by decide +kernel
theorem dX11_isHidden_8 : decode cX11_isHidden 8 = .ok (.bipush 6, 2) := by decide +kernel
theorem dX11_isHidden_10 : decode cX11_isHidden 10 = .ok (.iload_n 2, 1) := by decide +kernel
theorem dX11_isHidden_11 : decode cX11_isHidden 11 = .ok (.iload_n 1, 1) := by decide +kernel
theorem dX11_isHidden_12 : decode cX11_isHidden 12 = .ok (.invokestatic 193, 3) := by decide +kernel
theorem dX11_isHidden_15 : decode cX11_isHidden 15 = .ok (.aload_n 0, 1) := by decide +kernel
theorem dX11_isHidden_16 : decode cX11_isHidden 16 = .ok (.iload_n 1, 1) := by decide +kernel
theorem dX11_isHidden_17 : decode cX11_isHidden 17 = .ok (.iload_n 3, 1) := by decide +kernel
theorem dX11_isHidden_18 : decode cX11_isHidden 18 = .ok (.invokevirtual 197, 3) := by decide +kernel
theorem dX11_isHidden_21 : decode cX11_isHidden 21 = .ok (.iand, 1) := by decide +kernel
theorem dX11_isHidden_22 : decode cX11_isHidden 22 = .ok (.iload 4, 2) := by decide +kernel
theorem dX11_isHidden_24 : decode cX11_isHidden 24 = .ok (.iconst (-1), 1) := by decide +kernel
theorem dX11_isHidden_25 : decode cX11_isHidden 25 = .ok (.ixor, 1) := by decide +kernel
theorem dX11_isHidden_26 : decode cX11_isHidden 26 = .ok (.iand, 1) := by decide +kernel
theorem dX11_isHidden_27 : decode cX11_isHidden 27 = .ok (.istore 5, 2) := by decide +kernel
theorem dX11_isHidden_29 : decode cX11_isHidden 29 = .ok (.iconst 1, 1) := by decide +kernel
theorem dX11_isHidden_30 : decode cX11_isHidden 30 = .ok (.istore 6, 2) := by decide +kernel
theorem dX11_isHidden_32 : decode cX11_isHidden 32 = .ok (.iconst 0, 1) := by decide +kernel
theorem dX11_isHidden_33 : decode cX11_isHidden 33 = .ok (.istore 7, 2) := by decide +kernel
theorem dX11_isHidden_35 : decode cX11_isHidden 35 = .ok (.iload 7, 2) := by decide +kernel
theorem dX11_isHidden_37 : decode cX11_isHidden 37 = .ok (.aload_n 0, 1) := by decide +kernel
theorem dX11_isHidden_38 : decode cX11_isHidden 38 = .ok (.getfield 141, 3) := by decide +kernel
theorem dX11_isHidden_41 : decode cX11_isHidden 41 = .ok (.if_icmp .ge 94, 3) := by decide +kernel
theorem dX11_isHidden_44 : decode cX11_isHidden 44 = .ok (.iload_n 3, 1) := by decide +kernel
theorem dX11_isHidden_45 : decode cX11_isHidden 45 = .ok (.i2l, 1) := by decide +kernel
theorem dX11_isHidden_46 : decode cX11_isHidden 46 = .ok (.aload_n 0, 1) := by decide +kernel
theorem dX11_isHidden_47 : decode cX11_isHidden 47 = .ok (.getfield 25, 3) := by decide +kernel
theorem dX11_isHidden_50 : decode cX11_isHidden 50 = .ok (.iconst 4, 1) := by decide +kernel
theorem dX11_isHidden_51 : decode cX11_isHidden 51 = .ok (.iload 7, 2) := by decide +kernel
theorem dX11_isHidden_53 : decode cX11_isHidden 53 = .ok (.imul, 1) := by decide +kernel
theorem dX11_isHidden_54 : decode cX11_isHidden 54 = .ok (.iconst 2, 1) := by decide +kernel
theorem dX11_isHidden_55 : decode cX11_isHidden 55 = .ok (.iadd, 1) := by decide +kernel
theorem dX11_isHidden_56 : decode cX11_isHidden 56 = .ok (.iaload, 1) := by decide +kernel
theorem dX11_isHidden_57 : decode cX11_isHidden 57 = .ok (.i2l, 1) := by decide +kernel
theorem dX11_isHidden_58 : decode cX11_isHidden 58 = .ok (.aload_n 0, 1) := by decide +kernel
theorem dX11_isHidden_59 : decode cX11_isHidden 59 = .ok (.getfield 25, 3) := by decide +kernel
theorem dX11_isHidden_62 : decode cX11_isHidden 62 = .ok (.iconst 4, 1) := by decide +kernel
theorem dX11_isHidden_63 : decode cX11_isHidden 63 = .ok (.iload 7, 2) := by decide +kernel
theorem dX11_isHidden_65 : decode cX11_isHidden 65 = .ok (.imul, 1) := by decide +kernel
theorem dX11_isHidden_66 : decode cX11_isHidden 66 = .ok (.iconst 3, 1) := by decide +kernel
theorem dX11_isHidden_67 : decode cX11_isHidden 67 = .ok (.iadd, 1) := by decide +kernel
theorem dX11_isHidden_68 : decode cX11_isHidden 68 = .ok (.iaload, 1) := by decide +kernel
theorem dX11_isHidden_69 : decode cX11_isHidden 69 = .ok (.i2l, 1) := by decide +kernel
theorem dX11_isHidden_70 : decode cX11_isHidden 70 = .ok (.invokestatic 77, 3) := by decide +kernel
theorem dX11_isHidden_73 : decode cX11_isHidden 73 = .ok (.ifCond .eq 36, 3) := by decide +kernel
theorem dX11_isHidden_76 : decode cX11_isHidden 76 = .ok (.iload 5, 2) := by decide +kernel
theorem dX11_isHidden_78 : decode cX11_isHidden 78 = .ok (.aload_n 0, 1) := by decide +kernel
theorem dX11_isHidden_79 : decode cX11_isHidden 79 = .ok (.getfield 25, 3) := by decide +kernel
theorem dX11_isHidden_82 : decode cX11_isHidden 82 = .ok (.iconst 4, 1) := by decide +kernel
theorem dX11_isHidden_83 : decode cX11_isHidden 83 = .ok (.iload 7, 2) := by decide +kernel
theorem dX11_isHidden_85 : decode cX11_isHidden 85 = .ok (.imul, 1) := by decide +kernel
theorem dX11_isHidden_86 : decode cX11_isHidden 86 = .ok (.iaload, 1) := by decide +kernel
theorem dX11_isHidden_87 : decode cX11_isHidden 87 = .ok (.aload_n 0, 1) := by decide +kernel
theorem dX11_isHidden_88 : decode cX11_isHidden 88 = .ok (.getfield 25, 3) := by decide +kernel
theorem dX11_isHidden_91 : decode cX11_isHidden 91 = .ok (.iconst 4, 1) := by decide +kernel
theorem dX11_isHidden_92 : decode cX11_isHidden 92 = .ok (.iload 7, 2) := by decide +kernel
theorem dX11_isHidden_94 : decode cX11_isHidden 94 = .ok (.imul, 1) := by decide +kernel
theorem dX11_isHidden_95 : decode cX11_isHidden 95 = .ok (.iconst 1, 1) := by decide +kernel
theorem dX11_isHidden_96 : decode cX11_isHidden 96 = .ok (.iadd, 1) := by decide +kernel
theorem dX11_isHidden_97 : decode cX11_isHidden 97 = .ok (.iaload, 1) := by decide +kernel
theorem dX11_isHidden_98 : decode cX11_isHidden 98 = .ok (.invokestatic 129, 3) := by decide +kernel
theorem dX11_isHidden_101 : decode cX11_isHidden 101 = .ok (.iand, 1) := by decide +kernel
theorem dX11_isHidden_102 : decode cX11_isHidden 102 = .ok (.ifCond .eq 7, 3) := by decide +kernel
theorem dX11_isHidden_105 : decode cX11_isHidden 105 = .ok (.iconst 1, 1) := by decide +kernel
theorem dX11_isHidden_106 : decode cX11_isHidden 106 = .ok (.goto 4, 3) := by decide +kernel
theorem dX11_isHidden_109 : decode cX11_isHidden 109 = .ok (.iconst 0, 1) := by decide +kernel
theorem dX11_isHidden_110 : decode cX11_isHidden 110 = .ok (.istore 8, 2) := by decide +kernel
theorem dX11_isHidden_112 : decode cX11_isHidden 112 = .ok (.iload 6, 2) := by decide +kernel
theorem dX11_isHidden_114 : decode cX11_isHidden 114 = .ok (.ifCond .eq 12, 3) := by decide +kernel
theorem dX11_isHidden_117 : decode cX11_isHidden 117 = .ok (.iload 8, 2) := by decide +kernel
theorem dX11_isHidden_119 : decode cX11_isHidden 119 = .ok (.ifCond .ne 7, 3) := by decide +kernel
theorem dX11_isHidden_122 : decode cX11_isHidden 122 = .ok (.iconst 1, 1) := by decide +kernel
theorem dX11_isHidden_123 : decode cX11_isHidden 123 = .ok (.goto 4, 3) := by decide +kernel
theorem dX11_isHidden_126 : decode cX11_isHidden 126 = .ok (.iconst 0, 1) := by decide +kernel
theorem dX11_isHidden_127 : decode cX11_isHidden 127 = .ok (.istore 6, 2) := by decide +kernel
theorem dX11_isHidden_129 : decode cX11_isHidden 129 = .ok (.iinc 7 1, 3) := by decide +kernel
theorem dX11_isHidden_132 : decode cX11_isHidden 132 = .ok (.goto (-97), 3) := by decide +kernel
theorem dX11_isHidden_135 : decode cX11_isHidden 135 = .ok (.iload 6, 2) := by decide +kernel
theorem dX11_isHidden_137 : decode cX11_isHidden 137 = .ok (.ireturn, 1) := by decide +kernel
theorem dX11_hide_0 : decode cX11_hide 0 = .ok (.iload_n 1, 1) := by decide +kernel
theorem dX11_hide_1 : decode cX11_hide 1 = .ok (.invokestatic 200, 3) := by decide +kernel
theorem dX11_hide_4 : decode cX11_hide 4 = .ok (.ifCond .ne 6, 3) := by decide +kernel
theorem dX11_hide_7 : decode cX11_hide 7 = .ok (.bipush (-2), 2) := by decide +kernel
theorem dX11_hide_9 : decode cX11_hide 9 = .ok (.ireturn, 1) := by decide +kernel
theorem dX11_hide_10 : decode cX11_hide 10 = .ok (.iconst 0, 1) := by decide +kernel
theorem dX11_hide_11 : decode cX11_hide 11 = .ok (.istore_n 2, 1) := by decide +kernel
theorem dX11_hide_12 : decode cX11_hide 12 = .ok (.iload_n 2, 1) := by decide +kernel
theorem dX11_hide_13 : decode cX11_hide 13 = .ok (.bipush 60, 2) := by decide +kernel
theorem dX11_hide_15 : decode cX11_hide 15 = .ok (.if_icmp .ge 42, 3) := by decide +kernel
theorem dX11_hide_18 : decode cX11_hide 18 = .ok (.aload_n 0, 1) := by decide +kernel
theorem dX11_hide_19 : decode cX11_hide 19 = .ok (.iload_n 2, 1) := by decide +kernel
theorem dX11_hide_20 : decode cX11_hide 20 = .ok (.bipush 10, 2) := by decide +kernel
theorem dX11_hide_22 : decode cX11_hide 22 = .ok (.irem, 1) := by decide +kernel
theorem dX11_hide_23 : decode cX11_hide 23 = .ok (.iload_n 2, 1) := by decide +kernel
theorem dX11_hide_24 : decode cX11_hide 24 = .ok (.bipush 10, 2) := by decide +kernel
theorem dX11_hide_26 : decode cX11_hide 26 = .ok (.idiv, 1) := by decide +kernel
theorem dX11_hide_27 : decode cX11_hide 27 = .ok (.invokevirtual 179, 3) := by decide +kernel
theorem dX11_hide_30 : decode cX11_hide 30 = .ok (.ifCond .ne 21, 3) := by decide +kernel
theorem dX11_hide_33 : decode cX11_hide 33 = .ok (.aload_n 0, 1) := by decide +kernel
theorem dX11_hide_34 : decode cX11_hide 34 = .ok (.iload_n 1, 1) := by decide +kernel
theorem dX11_hide_35 : decode cX11_hide 35 = .ok (.iload_n 2, 1) := by decide +kernel
theorem dX11_hide_36 : decode cX11_hide 36 = .ok (.bipush 10, 2) := by decide +kernel
theorem dX11_hide_38 : decode cX11_hide 38 = .ok (.irem, 1) := by decide +kernel
theorem dX11_hide_39 : decode cX11_hide 39 = .ok (.iload_n 2, 1) := by decide +kernel
theorem dX11_hide_40 : decode cX11_hide 40 = .ok (.bipush 10, 2) := by decide +kernel
theorem dX11_hide_42 : decode cX11_hide 42 = .ok (.idiv, 1) := by decide +kernel
theorem dX11_hide_43 : decode cX11_hide 43 = .ok (.invokevirtual 217, 3) := by decide +kernel
theorem dX11_hide_46 : decode cX11_hide 46 = .ok (.ifCond .eq 5, 3) := by decide +kernel
theorem dX11_hide_49 : decode cX11_hide 49 = .ok (.iload_n 2, 1) := by decide +kernel
theorem dX11_hide_50 : decode cX11_hide 50 = .ok (.ireturn, 1) := by decide +kernel
theorem dX11_hide_51 : decode cX11_hide 51 = .ok (.iinc 2 1, 3) := by decide +kernel
theorem dX11_hide_54 : decode cX11_hide 54 = .ok (.goto (-42), 3) := by decide +kernel
theorem dX11_hide_57 : decode cX11_hide 57 = .ok (.bipush (-9), 2) := by decide +kernel
theorem dX11_hide_59 : decode cX11_hide 59 = .ok (.ireturn, 1) := by decide +kernel
theorem dX11_sight_0 : decode cX11_sight 0 = .ok (.iload_n 1, 1) := by decide +kernel
theorem dX11_sight_1 : decode cX11_sight 1 = .ok (.invokestatic 200, 3) := by decide +kernel
theorem dX11_sight_4 : decode cX11_sight 4 = .ok (.ifCond .eq 15, 3) := by decide +kernel
theorem dX11_sight_7 : decode cX11_sight 7 = .ok (.iload_n 2, 1) := by decide +kernel
theorem dX11_sight_8 : decode cX11_sight 8 = .ok (.i2l, 1) := by decide +kernel
theorem dX11_sight_9 : decode cX11_sight 9 = .ok (.lconst 0, 1) := by decide +kernel
theorem dX11_sight_10 : decode cX11_sight 10 = .ok (.ldc2_w 221, 3) := by decide +kernel
theorem dX11_sight_13 : decode cX11_sight 13 = .ok (.invokestatic 77, 3) := by decide +kernel
theorem dX11_sight_16 : decode cX11_sight 16 = .ok (.ifCond .ne 6, 3) := by decide +kernel
theorem dX11_sight_19 : decode cX11_sight 19 = .ok (.bipush (-2), 2) := by decide +kernel
theorem dX11_sight_21 : decode cX11_sight 21 = .ok (.ireturn, 1) := by decide +kernel
theorem dX11_sight_22 : decode cX11_sight 22 = .ok (.aload_n 0, 1) := by decide +kernel
theorem dX11_sight_23 : decode cX11_sight 23 = .ok (.getfield 223, 3) := by decide +kernel
theorem dX11_sight_26 : decode cX11_sight 26 = .ok (.bipush 6, 2) := by decide +kernel
theorem dX11_sight_28 : decode cX11_sight 28 = .ok (.if_icmp .ne 6, 3) := by decide +kernel
theorem dX11_sight_31 : decode cX11_sight 31 = .ok (.bipush (-4), 2) := by decide +kernel
theorem dX11_sight_33 : decode cX11_sight 33 = .ok (.ireturn, 1) := by decide +kernel
theorem dX11_sight_34 : decode cX11_sight 34 = .ok (.aload_n 0, 1) := by decide +kernel
theorem dX11_sight_35 : decode cX11_sight 35 = .ok (.getfield 43, 3) := by decide +kernel
theorem dX11_sight_38 : decode cX11_sight 38 = .ok (.aload_n 0, 1) := by decide +kernel
theorem dX11_sight_39 : decode cX11_sight 39 = .ok (.getfield 223, 3) := by decide +kernel
theorem dX11_sight_42 : decode cX11_sight 42 = .ok (.iload_n 1, 1) := by decide +kernel
theorem dX11_sight_43 : decode cX11_sight 43 = .ok (.iastore, 1) := by decide +kernel
theorem dX11_sight_44 : decode cX11_sight 44 = .ok (.aload_n 0, 1) := by decide +kernel
theorem dX11_sight_45 : decode cX11_sight 45 = .ok (.getfield 46, 3) := by decide +kernel
theorem dX11_sight_48 : decode cX11_sight 48 = .ok (.aload_n 0, 1) := by decide +kernel
theorem dX11_sight_49 : decode cX11_sight 49 = .ok (.getfield 223, 3) := by decide +kernel
theorem dX11_sight_52 : decode cX11_sight 52 = .ok (.iload_n 2, 1) := by decide +kernel
theorem dX11_sight_53 : decode cX11_sight 53 = .ok (.iastore, 1) := by decide +kernel
theorem dX11_sight_54 : decode cX11_sight 54 = .ok (.aload_n 0, 1) := by decide +kernel
theorem dX11_sight_55 : decode cX11_sight 55 = .ok (.dup, 1) := by decide +kernel
theorem dX11_sight_56 : decode cX11_sight 56 = .ok (.getfield 223, 3) := by decide +kernel
theorem dX11_sight_59 : decode cX11_sight 59 = .ok (.iconst 1, 1) := by decide +kernel
theorem dX11_sight_60 : decode cX11_sight 60 = .ok (.iadd, 1) := by decide +kernel
theorem dX11_sight_61 : decode cX11_sight 61 = .ok (.putfield 223, 3) := by decide +kernel
theorem dX11_sight_64 : decode cX11_sight 64 = .ok (.aload_n 0, 1) := by decide +kernel
theorem dX11_sight_65 : decode cX11_sight 65 = .ok (.getfield 223, 3) := by decide +kernel
theorem dX11_sight_68 : decode cX11_sight 68 = .ok (.ireturn, 1) := by decide +kernel
theorem dX11_unsee_0 : decode cX11_unsee 0 = .ok (.aload_n 0, 1) := by decide +kernel
theorem dX11_unsee_1 : decode cX11_unsee 1 = .ok (.getfield 223, 3) := by decide +kernel
theorem dX11_unsee_4 : decode cX11_unsee 4 = .ok (.istore_n 1, 1) := by decide +kernel
theorem dX11_unsee_5 : decode cX11_unsee 5 = .ok (.aload_n 0, 1) := by decide +kernel
theorem dX11_unsee_6 : decode cX11_unsee 6 = .ok (.iconst 0, 1) := by decide +kernel
theorem dX11_unsee_7 : decode cX11_unsee 7 = .ok (.putfield 223, 3) := by decide +kernel
theorem dX11_unsee_10 : decode cX11_unsee 10 = .ok (.iload_n 1, 1) := by decide +kernel
theorem dX11_unsee_11 : decode cX11_unsee 11 = .ok (.ireturn, 1) := by decide +kernel
theorem dX11_rowDark_0 : decode cX11_rowDark 0 = .ok (.iconst 0, 1) := by decide +kernel
theorem dX11_rowDark_1 : decode cX11_rowDark 1 = .ok (.istore_n 3, 1) := by decide +kernel
theorem dX11_rowDark_2 : decode cX11_rowDark 2 = .ok (.iload_n 1, 1) := by decide +kernel
theorem dX11_rowDark_3 : decode cX11_rowDark 3 = .ok (.istore 4, 2) := by decide +kernel
theorem dX11_rowDark_5 : decode cX11_rowDark 5 = .ok (.iconst 0, 1) := by decide +kernel
theorem dX11_rowDark_6 : decode cX11_rowDark 6 = .ok (.istore 5, 2) := by decide +kernel
theorem dX11_rowDark_8 : decode cX11_rowDark 8 = .ok (.iload 5, 2) := by decide +kernel
theorem dX11_rowDark_10 : decode cX11_rowDark 10 = .ok (.bipush 10, 2) := by decide +kernel
theorem dX11_rowDark_12 : decode cX11_rowDark 12 = .ok (.if_icmp .ge 37, 3) := by decide +kernel
theorem dX11_rowDark_15 : decode cX11_rowDark 15 = .ok (.iload_n 3, 1) := by decide +kernel
theorem dX11_rowDark_16 : decode cX11_rowDark 16 = .ok (.aload_n 0, 1) := by decide +kernel
theorem dX11_rowDark_17 : decode cX11_rowDark 17 = .ok (.getfield 49, 3) := by decide +kernel
theorem dX11_rowDark_20 : decode cX11_rowDark 20 = .ok (.bipush 30, 2) := by decide +kernel
theorem dX11_rowDark_22 : decode cX11_rowDark 22 = .ok (.iload_n 2, 1) := by decide +kernel
theorem dX11_rowDark_23 : decode cX11_rowDark 23 = .ok (.imul, 1) := by decide +kernel
theorem dX11_rowDark_24 : decode cX11_rowDark 24 = .ok (.iconst 3, 1) := by decide +kernel
theorem dX11_rowDark_25 : decode cX11_rowDark 25 = .ok (.iload 5, 2) := by decide +kernel
theorem dX11_rowDark_27 : decode cX11_rowDark 27 = .ok (.imul, 1) := by decide +kernel
theorem dX11_rowDark_28 : decode cX11_rowDark 28 = .ok (.iadd, 1) := by decide +kernel
theorem dX11_rowDark_29 : decode cX11_rowDark 29 = .ok (.iload 4, 2) := by decide +kernel
theorem dX11_rowDark_31 : decode cX11_rowDark 31 = .ok (.iconst 3, 1) := by decide +kernel
theorem dX11_rowDark_32 : decode cX11_rowDark 32 = .ok (.irem, 1) := by decide +kernel
theorem dX11_rowDark_33 : decode cX11_rowDark 33 = .ok (.iadd, 1) := by decide +kernel
theorem dX11_rowDark_34 : decode cX11_rowDark 34 = .ok (.iaload, 1) := by decide +kernel
theorem dX11_rowDark_35 : decode cX11_rowDark 35 = .ok (.ior, 1) := by decide +kernel
theorem dX11_rowDark_36 : decode cX11_rowDark 36 = .ok (.istore_n 3, 1) := by decide +kernel
theorem dX11_rowDark_37 : decode cX11_rowDark 37 = .ok (.iload 4, 2) := by decide +kernel
theorem dX11_rowDark_39 : decode cX11_rowDark 39 = .ok (.iconst 3, 1) := by decide +kernel
theorem dX11_rowDark_40 : decode cX11_rowDark 40 = .ok (.idiv, 1) := by decide +kernel
theorem dX11_rowDark_41 : decode cX11_rowDark 41 = .ok (.istore 4, 2) := by decide +kernel
theorem dX11_rowDark_43 : decode cX11_rowDark 43 = .ok (.iinc 5 1, 3) := by decide +kernel
theorem dX11_rowDark_46 : decode cX11_rowDark 46 = .ok (.goto (-38), 3) := by decide +kernel
theorem dX11_rowDark_49 : decode cX11_rowDark 49 = .ok (.iload_n 3, 1) := by decide +kernel
theorem dX11_rowDark_50 : decode cX11_rowDark 50 = .ok (.ireturn, 1) := by decide +kernel
theorem dX11_isFit_0 : decode cX11_isFit 0 = .ok (.iconst 1, 1) := by decide +kernel
theorem dX11_isFit_1 : decode cX11_isFit 1 = .ok (.istore_n 2, 1) := by decide +kernel
theorem dX11_isFit_2 : decode cX11_isFit 2 = .ok (.iconst 0, 1) := by decide +kernel
theorem dX11_isFit_3 : decode cX11_isFit 3 = .ok (.istore_n 3, 1) := by decide +kernel
theorem dX11_isFit_4 : decode cX11_isFit 4 = .ok (.iload_n 3, 1) := by decide +kernel
theorem dX11_isFit_5 : decode cX11_isFit 5 = .ok (.aload_n 0, 1) := by decide +kernel
theorem dX11_isFit_6 : decode cX11_isFit 6 = .ok (.getfield 223, 3) := by decide +kernel
theorem dX11_isFit_9 : decode cX11_isFit 9 = .ok (.if_icmp .ge 39, 3) := by decide +kernel
theorem dX11_isFit_12 : decode cX11_isFit 12 = .ok (.iload_n 2, 1) := by decide +kernel
theorem dX11_isFit_13 : decode cX11_isFit 13 = .ok (.ifCond .eq 35, 3) := by decide +kernel
theorem dX11_isFit_16 : decode cX11_isFit 16 = .ok (.aload_n 0, 1) := by decide +kernel
theorem dX11_isFit_17 : decode cX11_isFit 17 = .ok (.iload_n 1, 1) := by decide +kernel
theorem dX11_isFit_18 : decode cX11_isFit 18 = .ok (.aload_n 0, 1) := by decide +kernel
theorem dX11_isFit_19 : decode cX11_isFit 19 = .ok (.getfield 43, 3) := by decide +kernel
theorem dX11_isFit_22 : decode cX11_isFit 22 = .ok (.iload_n 3, 1) := by decide +kernel
theorem dX11_isFit_23 : decode cX11_isFit 23 = .ok (.iaload, 1) := by decide +kernel
theorem dX11_isFit_24 : decode cX11_isFit 24 = .ok (.invokevirtual 226, 3) := by decide +kernel
theorem dX11_isFit_27 : decode cX11_isFit 27 = .ok (.aload_n 0, 1) := by decide +kernel
theorem dX11_isFit_28 : decode cX11_isFit 28 = .ok (.getfield 46, 3) := by decide +kernel
theorem dX11_isFit_31 : decode cX11_isFit 31 = .ok (.iload_n 3, 1) := by decide +kernel
theorem dX11_isFit_32 : decode cX11_isFit 32 = .ok (.iaload, 1) := by decide +kernel
theorem dX11_isFit_33 : decode cX11_isFit 33 = .ok (.if_icmp .ne 7, 3) := by decide +kernel
theorem dX11_isFit_36 : decode cX11_isFit 36 = .ok (.iconst 1, 1) := by decide +kernel
theorem dX11_isFit_37 : decode cX11_isFit 37 = .ok (.goto 4, 3) := by decide +kernel
theorem dX11_isFit_40 : decode cX11_isFit 40 = .ok (.iconst 0, 1) := by decide +kernel
theorem dX11_isFit_41 : decode cX11_isFit 41 = .ok (.istore_n 2, 1) := by decide +kernel
theorem dX11_isFit_42 : decode cX11_isFit 42 = .ok (.iinc 3 1, 3) := by decide +kernel
theorem dX11_isFit_45 : decode cX11_isFit 45 = .ok (.goto (-41), 3) := by decide +kernel
theorem dX11_isFit_48 : decode cX11_isFit 48 = .ok (.iload_n 2, 1) := by decide +kernel
theorem dX11_isFit_49 : decode cX11_isFit 49 = .ok (.ireturn, 1) := by decide +kernel
theorem dX11_layFits_0 : decode cX11_layFits 0 = .ok (.iconst 0, 1) := by decide +kernel
theorem dX11_layFits_1 : decode cX11_layFits 1 = .ok (.istore_n 2, 1) := by decide +kernel
theorem dX11_layFits_2 : decode cX11_layFits 2 = .ok (.iload_n 2, 1) := by decide +kernel
theorem dX11_layFits_3 : decode cX11_layFits 3 = .ok (.sipush 480, 3) := by decide +kernel
theorem dX11_layFits_6 : decode cX11_layFits 6 = .ok (.if_icmp .ge 51, 3) := by decide +kernel
theorem dX11_layFits_9 : decode cX11_layFits 9 = .ok (.aload_n 0, 1) := by decide +kernel
theorem dX11_layFits_10 : decode cX11_layFits 10 = .ok (.getfield 49, 3) := by decide +kernel
theorem dX11_layFits_13 : decode cX11_layFits 13 = .ok (.iload_n 2, 1) := by decide +kernel
theorem dX11_layFits_14 : decode cX11_layFits 14 = .ok (.iload_n 2, 1) := by decide +kernel
theorem dX11_layFits_15 : decode cX11_layFits 15 = .ok (.iconst 3, 1) := by decide +kernel
theorem dX11_layFits_16 : decode cX11_layFits 16 = .ok (.irem, 1) := by decide +kernel
theorem dX11_layFits_17 : decode cX11_layFits 17 = .ok (.ifCond .ne 7, 3) := by decide +kernel
theorem dX11_layFits_20 : decode cX11_layFits 20 = .ok (.iconst 0, 1) := by decide +kernel
theorem dX11_layFits_21 : decode cX11_layFits 21 = .ok (.goto 29, 3) := by decide +kernel
theorem dX11_layFits_24 : decode cX11_layFits 24 = .ok (.iload_n 2, 1) := by decide +kernel
theorem dX11_layFits_25 : decode cX11_layFits 25 = .ok (.iconst 3, 1) := by decide +kernel
theorem dX11_layFits_26 : decode cX11_layFits 26 = .ok (.irem, 1) := by decide +kernel
theorem dX11_layFits_27 : decode cX11_layFits 27 = .ok (.iconst 1, 1) := by decide +kernel
theorem dX11_layFits_28 : decode cX11_layFits 28 = .ok (.if_icmp .ne 7, 3) := by decide +kernel
theorem dX11_layFits_31 : decode cX11_layFits 31 = .ok (.iconst 3, 1) := by decide +kernel
theorem dX11_layFits_32 : decode cX11_layFits 32 = .ok (.goto 5, 3) := by decide +kernel
theorem dX11_layFits_35 : decode cX11_layFits 35 = .ok (.bipush 6, 2) := by decide +kernel
theorem dX11_layFits_37 : decode cX11_layFits 37 = .ok (.iload_n 2, 1) := by decide +kernel
theorem dX11_layFits_38 : decode cX11_layFits 38 = .ok (.iconst 3, 1) := by decide +kernel
theorem dX11_layFits_39 : decode cX11_layFits 39 = .ok (.idiv, 1) := by decide +kernel
theorem dX11_layFits_40 : decode cX11_layFits 40 = .ok (.bipush 10, 2) := by decide +kernel
theorem dX11_layFits_42 : decode cX11_layFits 42 = .ok (.irem, 1) := by decide +kernel
theorem dX11_layFits_43 : decode cX11_layFits 43 = .ok (.iload_n 2, 1) := by decide +kernel
theorem dX11_layFits_44 : decode cX11_layFits 44 = .ok (.bipush 30, 2) := by decide +kernel
theorem dX11_layFits_46 : decode cX11_layFits 46 = .ok (.idiv, 1) := by decide +kernel
theorem dX11_layFits_47 : decode cX11_layFits 47 = .ok (.invokestatic 193, 3) := by decide +kernel
theorem dX11_layFits_50 : decode cX11_layFits 50 = .ok (.iastore, 1) := by decide +kernel
theorem dX11_layFits_51 : decode cX11_layFits 51 = .ok (.iinc 2 1, 3) := by decide +kernel
theorem dX11_layFits_54 : decode cX11_layFits 54 = .ok (.goto (-52), 3) := by decide +kernel
theorem dX11_layFits_57 : decode cX11_layFits 57 = .ok (.aload_n 0, 1) := by decide +kernel
theorem dX11_layFits_58 : decode cX11_layFits 58 = .ok (.iconst 0, 1) := by decide +kernel
theorem dX11_layFits_59 : decode cX11_layFits 59 = .ok (.putfield 229, 3) := by decide +kernel
theorem dX11_layFits_62 : decode cX11_layFits 62 = .ok (.aload_n 0, 1) := by decide +kernel
theorem dX11_layFits_63 : decode cX11_layFits 63 = .ok (.bipush 99, 2) := by decide +kernel
theorem dX11_layFits_65 : decode cX11_layFits 65 = .ok (.putfield 232, 3) := by decide +kernel
theorem dX11_layFits_68 : decode cX11_layFits 68 = .ok (.aload_n 0, 1) := by decide +kernel
theorem dX11_layFits_69 : decode cX11_layFits 69 = .ok (.bipush (-9), 2) := by decide +kernel
theorem dX11_layFits_71 : decode cX11_layFits 71 = .ok (.putfield 235, 3) := by decide +kernel
theorem dX11_layFits_74 : decode cX11_layFits 74 = .ok (.aload_n 0, 1) := by decide +kernel
theorem dX11_layFits_75 : decode cX11_layFits 75 = .ok (.sipush 1023, 3) := by decide +kernel
theorem dX11_layFits_78 : decode cX11_layFits 78 = .ok (.putfield 238, 3) := by decide +kernel
theorem dX11_layFits_81 : decode cX11_layFits 81 = .ok (.iconst 0, 1) := by decide +kernel
theorem dX11_layFits_82 : decode cX11_layFits 82 = .ok (.istore_n 2, 1) := by decide +kernel
theorem dX11_layFits_83 : decode cX11_layFits 83 = .ok (.iload_n 2, 1) := by decide +kernel
theorem dX11_layFits_84 : decode cX11_layFits 84 = .ok (.sipush 16384, 3) := by decide +kernel
theorem dX11_layFits_87 : decode cX11_layFits 87 = .ok (.if_icmp .ge 20, 3) := by decide +kernel
theorem dX11_layFits_90 : decode cX11_layFits 90 = .ok (.iload_n 1, 1) := by decide +kernel
theorem dX11_layFits_91 : decode cX11_layFits 91 = .ok (.ifCond .eq 16, 3) := by decide +kernel
theorem dX11_layFits_94 : decode cX11_layFits 94 = .ok (.aload_n 0, 1) := by decide +kernel
theorem dX11_layFits_95 : decode cX11_layFits 95 = .ok (.getfield 52, 3) := by decide +kernel
theorem dX11_layFits_98 : decode cX11_layFits 98 = .ok (.iload_n 2, 1) := by decide +kernel
theorem dX11_layFits_99 : decode cX11_layFits 99 = .ok (.iconst 0, 1) := by decide +kernel
theorem dX11_layFits_100 : decode cX11_layFits 100 = .ok (.bastore, 1) := by decide +kernel
theorem dX11_layFits_101 : decode cX11_layFits 101 = .ok (.iinc 2 1, 3) := by decide +kernel
theorem dX11_layFits_104 : decode cX11_layFits 104 = .ok (.goto (-21), 3) := by decide +kernel
theorem dX11_layFits_107 : decode cX11_layFits 107 = .ok (.iconst 0, 1) := by decide +kernel
theorem dX11_layFits_108 : decode cX11_layFits 108 = .ok (.istore_n 2, 1) := by decide +kernel
theorem dX11_layFits_109 : decode cX11_layFits 109 = .ok (.iload_n 2, 1) := by decide +kernel
theorem dX11_layFits_110 : decode cX11_layFits 110 = .ok (.ldc 241, 2) := by decide +kernel
theorem dX11_layFits_112 : decode cX11_layFits 112 = .ok (.if_icmp .ge 68, 3) := by decide +kernel
theorem dX11_layFits_115 : decode cX11_layFits 115 = .ok (.aload_n 0, 1) := by decide +kernel
theorem dX11_layFits_116 : decode cX11_layFits 116 = .ok (.iload_n 2, 1) := by decide +kernel
theorem dX11_layFits_117 : decode cX11_layFits 117 = .ok (.invokevirtual 242, 3) := by decide +kernel
theorem dX11_layFits_120 : decode cX11_layFits 120 = .ok (.ifCond .eq 54, 3) := by decide +kernel
theorem dX11_layFits_123 : decode cX11_layFits 123 = .ok (.aload_n 0, 1) := by decide +kernel
theorem dX11_layFits_124 : decode cX11_layFits 124 = .ok (.dup, 1) := by decide +kernel
theorem dX11_layFits_125 : decode cX11_layFits 125 = .ok (.getfield 229, 3) := by decide +kernel
theorem dX11_layFits_128 : decode cX11_layFits 128 = .ok (.iconst 1, 1) := by decide +kernel
theorem dX11_layFits_129 : decode cX11_layFits 129 = .ok (.iadd, 1) := by decide +kernel
theorem dX11_layFits_130 : decode cX11_layFits 130 = .ok (.putfield 229, 3) := by decide +kernel
theorem dX11_layFits_133 : decode cX11_layFits 133 = .ok (.aload_n 0, 1) := by decide +kernel
theorem dX11_layFits_134 : decode cX11_layFits 134 = .ok (.iload_n 2, 1) := by decide +kernel
theorem dX11_layFits_135 : decode cX11_layFits 135 = .ok (.invokevirtual 245, 3) := by decide +kernel
theorem dX11_layFits_138 : decode cX11_layFits 138 = .ok (.iconst 0, 1) := by decide +kernel
theorem dX11_layFits_139 : decode cX11_layFits 139 = .ok (.istore_n 3, 1) := by decide +kernel
theorem dX11_layFits_140 : decode cX11_layFits 140 = .ok (.iload_n 3, 1) := by decide +kernel
theorem dX11_layFits_141 : decode cX11_layFits 141 = .ok (.bipush 16, 2) := by decide +kernel
theorem dX11_layFits_143 : decode cX11_layFits 143 = .ok (.if_icmp .ge 31, 3) := by decide +kernel
theorem dX11_layFits_146 : decode cX11_layFits 146 = .ok (.iload_n 1, 1) := by decide +kernel
theorem dX11_layFits_147 : decode cX11_layFits 147 = .ok (.ifCond .eq 27, 3) := by decide +kernel
theorem dX11_layFits_150 : decode cX11_layFits 150 = .ok (.aload_n 0, 1) := by decide +kernel
theorem dX11_layFits_151 : decode cX11_layFits 151 = .ok (.getfield 52, 3) := by decide +kernel
theorem dX11_layFits_154 : decode cX11_layFits 154 = .ok (.sipush 1024, 3) := by decide +kernel
theorem dX11_layFits_157 : decode cX11_layFits 157 = .ok (.iload_n 3, 1) := by decide +kernel
theorem dX11_layFits_158 : decode cX11_layFits 158 = .ok (.imul, 1) := by decide +kernel
theorem dX11_layFits_159 : decode cX11_layFits 159 = .ok (.aload_n 0, 1) := by decide +kernel
theorem dX11_layFits_160 : decode cX11_layFits 160 = .ok (.iload_n 2, 1) := by decide +kernel
theorem dX11_layFits_161 : decode cX11_layFits 161 = .ok (.iload_n 3, 1) := by decide +kernel
theorem dX11_layFits_162 : decode cX11_layFits 162 = .ok (.invokevirtual 226, 3) := by decide +kernel
theorem dX11_layFits_165 : decode cX11_layFits 165 = .ok (.iadd, 1) := by decide +kernel
theorem dX11_layFits_166 : decode cX11_layFits 166 = .ok (.iconst 1, 1) := by decide +kernel
theorem dX11_layFits_167 : decode cX11_layFits 167 = .ok (.bastore, 1) := by decide +kernel
theorem dX11_layFits_168 : decode cX11_layFits 168 = .ok (.iinc 3 1, 3) := by decide +kernel
theorem dX11_layFits_171 : decode cX11_layFits 171 = .ok (.goto (-31), 3) := by decide +kernel
theorem dX11_layFits_174 : decode cX11_layFits 174 = .ok (.iinc 2 1, 3) := by decide +kernel
theorem dX11_layFits_177 : decode cX11_layFits 177 = .ok (.goto (-68), 3) := by decide +kernel
theorem dX11_layFits_180 : decode cX11_layFits 180 = .ok (.return_, 1) := by decide +kernel
theorem dX11_layFit_0 : decode cX11_layFit 0 = .ok (.iconst 0, 1) := by decide +kernel
theorem dX11_layFit_1 : decode cX11_layFit 1 = .ok (.istore_n 2, 1) := by decide +kernel
theorem dX11_layFit_2 : decode cX11_layFit 2 = .ok (.iconst 0, 1) := by decide +kernel
theorem dX11_layFit_3 : decode cX11_layFit 3 = .ok (.istore_n 3, 1) := by decide +kernel
theorem dX11_layFit_4 : decode cX11_layFit 4 = .ok (.iload_n 1, 1) := by decide +kernel
theorem dX11_layFit_5 : decode cX11_layFit 5 = .ok (.istore 4, 2) := by decide +kernel
theorem dX11_layFit_7 : decode cX11_layFit 7 = .ok (.iconst 0, 1) := by decide +kernel
theorem dX11_layFit_8 : decode cX11_layFit 8 = .ok (.istore 5, 2) := by decide +kernel
theorem dX11_layFit_10 : decode cX11_layFit 10 = .ok (.iload 5, 2) := by decide +kernel
theorem dX11_layFit_12 : decode cX11_layFit 12 = .ok (.bipush 10, 2) := by decide +kernel
theorem dX11_layFit_14 : decode cX11_layFit 14 = .ok (.if_icmp .ge 48, 3) := by decide +kernel
theorem dX11_layFit_17 : decode cX11_layFit 17 = .ok (.iload_n 2, 1) := by decide +kernel
theorem dX11_layFit_18 : decode cX11_layFit 18 = .ok (.iload 4, 2) := by decide +kernel
theorem dX11_layFit_20 : decode cX11_layFit 20 = .ok (.iconst 3, 1) := by decide +kernel
theorem dX11_layFit_21 : decode cX11_layFit 21 = .ok (.irem, 1) := by decide +kernel
theorem dX11_layFit_22 : decode cX11_layFit 22 = .ok (.ifCond .le 7, 3) := by decide +kernel
theorem dX11_layFit_25 : decode cX11_layFit 25 = .ok (.iconst 1, 1) := by decide +kernel
theorem dX11_layFit_26 : decode cX11_layFit 26 = .ok (.goto 4, 3) := by decide +kernel
theorem dX11_layFit_29 : decode cX11_layFit 29 = .ok (.iconst 0, 1) := by decide +kernel
theorem dX11_layFit_30 : decode cX11_layFit 30 = .ok (.iadd, 1) := by decide +kernel
theorem dX11_layFit_31 : decode cX11_layFit 31 = .ok (.istore_n 2, 1) := by decide +kernel
theorem dX11_layFit_32 : decode cX11_layFit 32 = .ok (.iload_n 3, 1) := by decide +kernel
theorem dX11_layFit_33 : decode cX11_layFit 33 = .ok (.iload 4, 2) := by decide +kernel
theorem dX11_layFit_35 : decode cX11_layFit 35 = .ok (.iconst 3, 1) := by decide +kernel
theorem dX11_layFit_36 : decode cX11_layFit 36 = .ok (.irem, 1) := by decide +kernel
theorem dX11_layFit_37 : decode cX11_layFit 37 = .ok (.ifCond .le 10, 3) := by decide +kernel
theorem dX11_layFit_40 : decode cX11_layFit 40 = .ok (.iconst 1, 1) := by decide +kernel
theorem dX11_layFit_41 : decode cX11_layFit 41 = .ok (.iload 5, 2) := by decide +kernel
theorem dX11_layFit_43 : decode cX11_layFit 43 = .ok (.ishl, 1) := by decide +kernel
theorem dX11_layFit_44 : decode cX11_layFit 44 = .ok (.goto 4, 3) := by decide +kernel
theorem dX11_layFit_47 : decode cX11_layFit 47 = .ok (.iconst 0, 1) := by decide +kernel
theorem dX11_layFit_48 : decode cX11_layFit 48 = .ok (.ior, 1) := by decide +kernel
theorem dX11_layFit_49 : decode cX11_layFit 49 = .ok (.istore_n 3, 1) := by decide +kernel
theorem dX11_layFit_50 : decode cX11_layFit 50 = .ok (.iload 4, 2) := by decide +kernel
theorem dX11_layFit_52 : decode cX11_layFit 52 = .ok (.iconst 3, 1) := by decide +kernel
theorem dX11_layFit_53 : decode cX11_layFit 53 = .ok (.idiv, 1) := by decide +kernel
theorem dX11_layFit_54 : decode cX11_layFit 54 = .ok (.istore 4, 2) := by decide +kernel
theorem dX11_layFit_56 : decode cX11_layFit 56 = .ok (.iinc 5 1, 3) := by decide +kernel
theorem dX11_layFit_59 : decode cX11_layFit 59 = .ok (.goto (-49), 3) := by decide +kernel
theorem dX11_layFit_62 : decode cX11_layFit 62 = .ok (.aload_n 0, 1) := by decide +kernel
theorem dX11_layFit_63 : decode cX11_layFit 63 = .ok (.iload_n 2, 1) := by decide +kernel
theorem dX11_layFit_64 : decode cX11_layFit 64 = .ok (.aload_n 0, 1) := by decide +kernel
theorem dX11_layFit_65 : decode cX11_layFit 65 = .ok (.getfield 232, 3) := by decide +kernel
theorem dX11_layFit_68 : decode cX11_layFit 68 = .ok (.if_icmp .ge 7, 3) := by decide +kernel
theorem dX11_layFit_71 : decode cX11_layFit 71 = .ok (.iload_n 2, 1) := by decide +kernel
theorem dX11_layFit_72 : decode cX11_layFit 72 = .ok (.goto 7, 3) := by decide +kernel
theorem dX11_layFit_75 : decode cX11_layFit 75 = .ok (.aload_n 0, 1) := by decide +kernel
theorem dX11_layFit_76 : decode cX11_layFit 76 = .ok (.getfield 232, 3) := by decide +kernel
theorem dX11_layFit_79 : decode cX11_layFit 79 = .ok (.putfield 232, 3) := by decide +kernel
theorem dX11_layFit_82 : decode cX11_layFit 82 = .ok (.aload_n 0, 1) := by decide +kernel
theorem dX11_layFit_83 : decode cX11_layFit 83 = .ok (.iload_n 2, 1) := by decide +kernel
theorem dX11_layFit_84 : decode cX11_layFit 84 = .ok (.aload_n 0, 1) := by decide +kernel
theorem dX11_layFit_85 : decode cX11_layFit 85 = .ok (.getfield 235, 3) := by decide +kernel
theorem dX11_layFit_88 : decode cX11_layFit 88 = .ok (.if_icmp .le 7, 3) := by decide +kernel
theorem dX11_layFit_91 : decode cX11_layFit 91 = .ok (.iload_n 2, 1) := by decide +kernel
theorem dX11_layFit_92 : decode cX11_layFit 92 = .ok (.goto 7, 3) := by decide +kernel
theorem dX11_layFit_95 : decode cX11_layFit 95 = .ok (.aload_n 0, 1) := by decide +kernel
theorem dX11_layFit_96 : decode cX11_layFit 96 = .ok (.getfield 235, 3) := by decide +kernel
theorem dX11_layFit_99 : decode cX11_layFit 99 = .ok (.putfield 235, 3) := by decide +kernel
theorem dX11_layFit_102 : decode cX11_layFit 102 = .ok (.aload_n 0, 1) := by decide +kernel
theorem dX11_layFit_103 : decode cX11_layFit 103 = .ok (.dup, 1) := by decide +kernel
theorem dX11_layFit_104 : decode cX11_layFit 104 = .ok (.getfield 238, 3) := by decide +kernel
theorem dX11_layFit_107 : decode cX11_layFit 107 = .ok (.iload_n 3, 1) := by decide +kernel
theorem dX11_layFit_108 : decode cX11_layFit 108 = .ok (.iand, 1) := by decide +kernel
theorem dX11_layFit_109 : decode cX11_layFit 109 = .ok (.putfield 238, 3) := by decide +kernel
theorem dX11_layFit_112 : decode cX11_layFit 112 = .ok (.return_, 1) := by decide +kernel
theorem dX11_fits_0 : decode cX11_fits 0 = .ok (.aload_n 0, 1) := by decide +kernel
theorem dX11_fits_1 : decode cX11_fits 1 = .ok (.iconst 0, 1) := by decide +kernel
theorem dX11_fits_2 : decode cX11_fits 2 = .ok (.invokevirtual 248, 3) := by decide +kernel
theorem dX11_fits_5 : decode cX11_fits 5 = .ok (.aload_n 0, 1) := by decide +kernel
theorem dX11_fits_6 : decode cX11_fits 6 = .ok (.getfield 229, 3) := by decide +kernel
theorem dX11_fits_9 : decode cX11_fits 9 = .ok (.ireturn, 1) := by decide +kernel
theorem dX11_people_0 : decode cX11_people 0 = .ok (.aload_n 0, 1) := by decide +kernel
theorem dX11_people_1 : decode cX11_people 1 = .ok (.iconst 0, 1) := by decide +kernel
theorem dX11_people_2 : decode cX11_people 2 = .ok (.invokevirtual 248, 3) := by decide +kernel
theorem dX11_people_5 : decode cX11_people 5 = .ok (.aload_n 0, 1) := by decide +kernel
theorem dX11_people_6 : decode cX11_people 6 = .ok (.getfield 229, 3) := by decide +kernel
theorem dX11_people_9 : decode cX11_people 9 = .ok (.ifCond .ne 8, 3) := by decide +kernel
theorem dX11_people_12 : decode cX11_people 12 = .ok (.bipush (-9), 2) := by decide +kernel
theorem dX11_people_14 : decode cX11_people 14 = .ok (.goto 18, 3) := by decide +kernel
theorem dX11_people_17 : decode cX11_people 17 = .ok (.iload_n 1, 1) := by decide +kernel
theorem dX11_people_18 : decode cX11_people 18 = .ok (.ifCond .eq 10, 3) := by decide +kernel
theorem dX11_people_21 : decode cX11_people 21 = .ok (.aload_n 0, 1) := by decide +kernel
theorem dX11_people_22 : decode cX11_people 22 = .ok (.getfield 235, 3) := by decide +kernel
theorem dX11_people_25 : decode cX11_people 25 = .ok (.goto 7, 3) := by decide +kernel
theorem dX11_people_28 : decode cX11_people 28 = .ok (.aload_n 0, 1) := by decide +kernel
theorem dX11_people_29 : decode cX11_people 29 = .ok (.getfield 232, 3) := by decide +kernel
theorem dX11_people_32 : decode cX11_people 32 = .ok (.ireturn, 1) := by decide +kernel
theorem dX11_sure_0 : decode cX11_sure 0 = .ok (.aload_n 0, 1) := by decide +kernel
theorem dX11_sure_1 : decode cX11_sure 1 = .ok (.iconst 0, 1) := by decide +kernel
theorem dX11_sure_2 : decode cX11_sure 2 = .ok (.invokevirtual 248, 3) := by decide +kernel
theorem dX11_sure_5 : decode cX11_sure 5 = .ok (.aload_n 0, 1) := by decide +kernel
theorem dX11_sure_6 : decode cX11_sure 6 = .ok (.getfield 229, 3) := by decide +kernel
theorem dX11_sure_9 : decode cX11_sure 9 = .ok (.ifCond .ne 8, 3) := by decide +kernel
theorem dX11_sure_12 : decode cX11_sure 12 = .ok (.bipush (-9), 2) := by decide +kernel
theorem dX11_sure_14 : decode cX11_sure 14 = .ok (.goto 7, 3) := by decide +kernel
theorem dX11_sure_17 : decode cX11_sure 17 = .ok (.aload_n 0, 1) := by decide +kernel
theorem dX11_sure_18 : decode cX11_sure 18 = .ok (.getfield 238, 3) := by decide +kernel
theorem dX11_sure_21 : decode cX11_sure 21 = .ok (.ireturn, 1) := by decide +kernel
theorem dX11_next_0 : decode cX11_next 0 = .ok (.aload_n 0, 1) := by decide +kernel
theorem dX11_next_1 : decode cX11_next 1 = .ok (.iconst 1, 1) := by decide +kernel
theorem dX11_next_2 : decode cX11_next 2 = .ok (.invokevirtual 248, 3) := by decide +kernel
theorem dX11_next_5 : decode cX11_next 5 = .ok (.bipush (-9), 2) := by decide +kernel
theorem dX11_next_7 : decode cX11_next 7 = .ok (.istore_n 1, 1) := by decide +kernel
theorem dX11_next_8 : decode cX11_next 8 = .ok (.iconst 0, 1) := by decide +kernel
theorem dX11_next_9 : decode cX11_next 9 = .ok (.istore_n 2, 1) := by decide +kernel
theorem dX11_next_10 : decode cX11_next 10 = .ok (.iconst 0, 1) := by decide +kernel
theorem dX11_next_11 : decode cX11_next 11 = .ok (.istore_n 3, 1) := by decide +kernel
theorem dX11_next_12 : decode cX11_next 12 = .ok (.iload_n 3, 1) := by decide +kernel
theorem dX11_next_13 : decode cX11_next 13 = .ok (.bipush 16, 2) := by decide +kernel
theorem dX11_next_15 : decode cX11_next 15 = .ok (.if_icmp .ge 80, 3) := by decide +kernel
theorem dX11_next_18 : decode cX11_next 18 = .ok (.iconst 0, 1) := by decide +kernel
theorem dX11_next_19 : decode cX11_next 19 = .ok (.istore 4, 2) := by decide +kernel
theorem dX11_next_21 : decode cX11_next 21 = .ok (.iconst 0, 1) := by decide +kernel
theorem dX11_next_22 : decode cX11_next 22 = .ok (.istore 5, 2) := by decide +kernel
theorem dX11_next_24 : decode cX11_next 24 = .ok (.iload 5, 2) := by decide +kernel
theorem dX11_next_26 : decode cX11_next 26 = .ok (.sipush 1024, 3) := by decide +kernel
theorem dX11_next_29 : decode cX11_next 29 = .ok (.if_icmp .ge 35, 3) := by decide +kernel
theorem dX11_next_32 : decode cX11_next 32 = .ok (.iload 4, 2) := by decide +kernel
theorem dX11_next_34 : decode cX11_next 34 = .ok (.aload_n 0, 1) := by decide +kernel
theorem dX11_next_35 : decode cX11_next 35 = .ok (.getfield 52, 3) := by decide +kernel
theorem dX11_next_38 : decode cX11_next 38 = .ok (.sipush 1024, 3) := by decide +kernel
theorem dX11_next_41 : decode cX11_next 41 = .ok (.iload_n 3, 1) := by decide +kernel
theorem dX11_next_42 : decode cX11_next 42 = .ok (.imul, 1) := by decide +kernel
theorem dX11_next_43 : decode cX11_next 43 = .ok (.iload 5, 2) := by decide +kernel
theorem dX11_next_45 : decode cX11_next 45 = .ok (.iadd, 1) := by decide +kernel
theorem dX11_next_46 : decode cX11_next 46 = .ok (.baload, 1) := by decide +kernel
theorem dX11_next_47 : decode cX11_next 47 = .ok (.ifCond .eq 7, 3) := by decide +kernel
theorem dX11_next_50 : decode cX11_next 50 = .ok (.iconst 1, 1) := by decide +kernel
theorem dX11_next_51 : decode cX11_next 51 = .ok (.goto 4, 3) := by decide +kernel
theorem dX11_next_54 : decode cX11_next 54 = .ok (.iconst 0, 1) := by decide +kernel
theorem dX11_next_55 : decode cX11_next 55 = .ok (.iadd, 1) := by decide +kernel
theorem dX11_next_56 : decode cX11_next 56 = .ok (.istore 4, 2) := by decide +kernel
theorem dX11_next_58 : decode cX11_next 58 = .ok (.iinc 5 1, 3) := by decide +kernel
theorem dX11_next_61 : decode cX11_next 61 = .ok (.goto (-37), 3) := by decide +kernel
theorem dX11_next_64 : decode cX11_next 64 = .ok (.iload 4, 2) := by decide +kernel
theorem dX11_next_66 : decode cX11_next 66 = .ok (.iload_n 2, 1) := by decide +kernel
theorem dX11_next_67 : decode cX11_next 67 = .ok (.if_icmp .le 7, 3) := by decide +kernel
theorem dX11_next_70 : decode cX11_next 70 = .ok (.iload_n 3, 1) := by decide +kernel
theorem dX11_next_71 : decode cX11_next 71 = .ok (.goto 4, 3) := by decide +kernel
theorem dX11_next_74 : decode cX11_next 74 = .ok (.iload_n 1, 1) := by decide +kernel
theorem dX11_next_75 : decode cX11_next 75 = .ok (.istore_n 1, 1) := by decide +kernel
theorem dX11_next_76 : decode cX11_next 76 = .ok (.iload 4, 2) := by decide +kernel
theorem dX11_next_78 : decode cX11_next 78 = .ok (.iload_n 2, 1) := by decide +kernel
theorem dX11_next_79 : decode cX11_next 79 = .ok (.if_icmp .le 8, 3) := by decide +kernel
theorem dX11_next_82 : decode cX11_next 82 = .ok (.iload 4, 2) := by decide +kernel
theorem dX11_next_84 : decode cX11_next 84 = .ok (.goto 4, 3) := by decide +kernel
theorem dX11_next_87 : decode cX11_next 87 = .ok (.iload_n 2, 1) := by decide +kernel
theorem dX11_next_88 : decode cX11_next 88 = .ok (.istore_n 2, 1) := by decide +kernel
theorem dX11_next_89 : decode cX11_next 89 = .ok (.iinc 3 1, 3) := by decide +kernel
theorem dX11_next_92 : decode cX11_next 92 = .ok (.goto (-80), 3) := by decide +kernel
theorem dX11_next_95 : decode cX11_next 95 = .ok (.iload_n 1, 1) := by decide +kernel
theorem dX11_next_96 : decode cX11_next 96 = .ok (.ireturn, 1) := by decide +kernel
theorem dX11_keep_0 : decode cX11_keep 0 = .ok (.iload_n 1, 1) := by decide +kernel
theorem dX11_keep_1 : decode cX11_keep 1 = .ok (.i2l, 1) := by decide +kernel
theorem dX11_keep_2 : decode cX11_keep 2 = .ok (.lconst 0, 1) := by decide +kernel
theorem dX11_keep_3 : decode cX11_keep 3 = .ok (.lconst 1, 1) := by decide +kernel
theorem dX11_keep_4 : decode cX11_keep 4 = .ok (.invokestatic 77, 3) := by decide +kernel
theorem dX11_keep_7 : decode cX11_keep 7 = .ok (.ifCond .ne 5, 3) := by decide +kernel
theorem dX11_keep_10 : decode cX11_keep 10 = .ok (.iconst (-1), 1) := by decide +kernel
theorem dX11_keep_11 : decode cX11_keep 11 = .ok (.ireturn, 1) := by decide +kernel
theorem dX11_keep_12 : decode cX11_keep 12 = .ok (.aload_n 0, 1) := by decide +kernel
theorem dX11_keep_13 : decode cX11_keep 13 = .ok (.getfield 56, 3) := by decide +kernel
theorem dX11_keep_16 : decode cX11_keep 16 = .ok (.iload_n 1, 1) := by decide +kernel
theorem dX11_keep_17 : decode cX11_keep 17 = .ok (.iconst 1, 1) := by decide +kernel
theorem dX11_keep_18 : decode cX11_keep 18 = .ok (.bastore, 1) := by decide +kernel
theorem dX11_keep_19 : decode cX11_keep 19 = .ok (.iconst 0, 1) := by decide +kernel
theorem dX11_keep_20 : decode cX11_keep 20 = .ok (.istore_n 2, 1) := by decide +kernel
theorem dX11_keep_21 : decode cX11_keep 21 = .ok (.iload_n 2, 1) := by decide +kernel
theorem dX11_keep_22 : decode cX11_keep 22 = .ok (.bipush 24, 2) := by decide +kernel
theorem dX11_keep_24 : decode cX11_keep 24 = .ok (.if_icmp .ge 26, 3) := by decide +kernel
theorem dX11_keep_27 : decode cX11_keep 27 = .ok (.aload_n 0, 1) := by decide +kernel
theorem dX11_keep_28 : decode cX11_keep 28 = .ok (.getfield 59, 3) := by decide +kernel
theorem dX11_keep_31 : decode cX11_keep 31 = .ok (.bipush 25, 2) := by decide +kernel
theorem dX11_keep_33 : decode cX11_keep 33 = .ok (.iload_n 1, 1) := by decide +kernel
theorem dX11_keep_34 : decode cX11_keep 34 = .ok (.imul, 1) := by decide +kernel
theorem dX11_keep_35 : decode cX11_keep 35 = .ok (.iload_n 2, 1) := by decide +kernel
theorem dX11_keep_36 : decode cX11_keep 36 = .ok (.iadd, 1) := by decide +kernel
theorem dX11_keep_37 : decode cX11_keep 37 = .ok (.aload_n 0, 1) := by decide +kernel
theorem dX11_keep_38 : decode cX11_keep 38 = .ok (.getfield 22, 3) := by decide +kernel
theorem dX11_keep_41 : decode cX11_keep 41 = .ok (.iload_n 2, 1) := by decide +kernel
theorem dX11_keep_42 : decode cX11_keep 42 = .ok (.iaload, 1) := by decide +kernel
theorem dX11_keep_43 : decode cX11_keep 43 = .ok (.iastore, 1) := by decide +kernel
theorem dX11_keep_44 : decode cX11_keep 44 = .ok (.iinc 2 1, 3) := by decide +kernel
theorem dX11_keep_47 : decode cX11_keep 47 = .ok (.goto (-26), 3) := by decide +kernel
theorem dX11_keep_50 : decode cX11_keep 50 = .ok (.aload_n 0, 1) := by decide +kernel
theorem dX11_keep_51 : decode cX11_keep 51 = .ok (.getfield 59, 3) := by decide +kernel
theorem dX11_keep_54 : decode cX11_keep 54 = .ok (.bipush 25, 2) := by decide +kernel
theorem dX11_keep_56 : decode cX11_keep 56 = .ok (.iload_n 1, 1) := by decide +kernel
theorem dX11_keep_57 : decode cX11_keep 57 = .ok (.imul, 1) := by decide +kernel
theorem dX11_keep_58 : decode cX11_keep 58 = .ok (.bipush 24, 2) := by decide +kernel
theorem dX11_keep_60 : decode cX11_keep 60 = .ok (.iadd, 1) := by decide +kernel
theorem dX11_keep_61 : decode cX11_keep 61 = .ok (.aload_n 0, 1) := by decide +kernel
theorem dX11_keep_62 : decode cX11_keep 62 = .ok (.getfield 71, 3) := by decide +kernel
theorem dX11_keep_65 : decode cX11_keep 65 = .ok (.iastore, 1) := by decide +kernel
theorem dX11_keep_66 : decode cX11_keep 66 = .ok (.iconst 0, 1) := by decide +kernel
theorem dX11_keep_67 : decode cX11_keep 67 = .ok (.istore_n 2, 1) := by decide +kernel
theorem dX11_keep_68 : decode cX11_keep 68 = .ok (.iload_n 2, 1) := by decide +kernel
theorem dX11_keep_69 : decode cX11_keep 69 = .ok (.bipush 6, 2) := by decide +kernel
theorem dX11_keep_71 : decode cX11_keep 71 = .ok (.if_icmp .ge 43, 3) := by decide +kernel
theorem dX11_keep_74 : decode cX11_keep 74 = .ok (.aload_n 0, 1) := by decide +kernel
theorem dX11_keep_75 : decode cX11_keep 75 = .ok (.getfield 62, 3) := by decide +kernel
theorem dX11_keep_78 : decode cX11_keep 78 = .ok (.bipush 6, 2) := by decide +kernel
theorem dX11_keep_80 : decode cX11_keep 80 = .ok (.iload_n 1, 1) := by decide +kernel
theorem dX11_keep_81 : decode cX11_keep 81 = .ok (.imul, 1) := by decide +kernel
theorem dX11_keep_82 : decode cX11_keep 82 = .ok (.iload_n 2, 1) := by decide +kernel
theorem dX11_keep_83 : decode cX11_keep 83 = .ok (.iadd, 1) := by decide +kernel
theorem dX11_keep_84 : decode cX11_keep 84 = .ok (.aload_n 0, 1) := by decide +kernel
theorem dX11_keep_85 : decode cX11_keep 85 = .ok (.getfield 43, 3) := by decide +kernel
theorem dX11_keep_88 : decode cX11_keep 88 = .ok (.iload_n 2, 1) := by decide +kernel
theorem dX11_keep_89 : decode cX11_keep 89 = .ok (.iaload, 1) := by decide +kernel
theorem dX11_keep_90 : decode cX11_keep 90 = .ok (.iastore, 1) := by decide +kernel
theorem dX11_keep_91 : decode cX11_keep 91 = .ok (.aload_n 0, 1) := by decide +kernel
theorem dX11_keep_92 : decode cX11_keep 92 = .ok (.getfield 65, 3) := by decide +kernel
theorem dX11_keep_95 : decode cX11_keep 95 = .ok (.bipush 6, 2) := by decide +kernel
theorem dX11_keep_97 : decode cX11_keep 97 = .ok (.iload_n 1, 1) := by decide +kernel
theorem dX11_keep_98 : decode cX11_keep 98 = .ok (.imul, 1) := by decide +kernel
theorem dX11_keep_99 : decode cX11_keep 99 = .ok (.iload_n 2, 1) := by decide +kernel
theorem dX11_keep_100 : decode cX11_keep 100 = .ok (.iadd, 1) := by decide +kernel
theorem dX11_keep_101 : decode cX11_keep 101 = .ok (.aload_n 0, 1) := by decide +kernel
theorem dX11_keep_102 : decode cX11_keep 102 = .ok (.getfield 46, 3) := by decide +kernel
theorem dX11_keep_105 : decode cX11_keep 105 = .ok (.iload_n 2, 1) := by decide +kernel
theorem dX11_keep_106 : decode cX11_keep 106 = .ok (.iaload, 1) := by decide +kernel
theorem dX11_keep_107 : decode cX11_keep 107 = .ok (.iastore, 1) := by decide +kernel
theorem dX11_keep_108 : decode cX11_keep 108 = .ok (.iinc 2 1, 3) := by decide +kernel
theorem dX11_keep_111 : decode cX11_keep 111 = .ok (.goto (-43), 3) := by decide +kernel
theorem dX11_keep_114 : decode cX11_keep 114 = .ok (.aload_n 0, 1) := by decide +kernel
theorem dX11_keep_115 : decode cX11_keep 115 = .ok (.getfield 68, 3) := by decide +kernel
theorem dX11_keep_118 : decode cX11_keep 118 = .ok (.iload_n 1, 1) := by decide +kernel
theorem dX11_keep_119 : decode cX11_keep 119 = .ok (.aload_n 0, 1) := by decide +kernel
theorem dX11_keep_120 : decode cX11_keep 120 = .ok (.getfield 223, 3) := by decide +kernel
theorem dX11_keep_123 : decode cX11_keep 123 = .ok (.iastore, 1) := by decide +kernel
theorem dX11_keep_124 : decode cX11_keep 124 = .ok (.aload_n 0, 1) := by decide +kernel
theorem dX11_keep_125 : decode cX11_keep 125 = .ok (.getfield 71, 3) := by decide +kernel
theorem dX11_keep_128 : decode cX11_keep 128 = .ok (.ireturn, 1) := by decide +kernel
theorem dX11_again_0 : decode cX11_again 0 = .ok (.iload_n 1, 1) := by decide +kernel
theorem dX11_again_1 : decode cX11_again 1 = .ok (.i2l, 1) := by decide +kernel
theorem dX11_again_2 : decode cX11_again 2 = .ok (.lconst 0, 1) := by decide +kernel
theorem dX11_again_3 : decode cX11_again 3 = .ok (.lconst 1, 1) := by decide +kernel
theorem dX11_again_4 : decode cX11_again 4 = .ok (.invokestatic 77, 3) := by decide +kernel
theorem dX11_again_7 : decode cX11_again 7 = .ok (.ifCond .ne 5, 3) := by decide +kernel
theorem dX11_again_10 : decode cX11_again 10 = .ok (.iconst (-1), 1) := by decide +kernel
theorem dX11_again_11 : decode cX11_again 11 = .ok (.ireturn, 1) := by decide +kernel
theorem dX11_again_12 : decode cX11_again 12 = .ok (.aload_n 0, 1) := by decide +kernel
theorem dX11_again_13 : decode cX11_again 13 = .ok (.getfield 56, 3) := by decide +kernel
theorem dX11_again_16 : decode cX11_again 16 = .ok (.iload_n 1, 1) := by decide +kernel
theorem dX11_again_17 : decode cX11_again 17 = .ok (.baload, 1) := by decide +kernel
theorem dX11_again_18 : decode cX11_again 18 = .ok (.ifCond .ne 6, 3) := by decide +kernel
theorem dX11_again_21 : decode cX11_again 21 = .ok (.bipush (-3), 2) := by decide +kernel
theorem dX11_again_23 : decode cX11_again 23 = .ok (.ireturn, 1) := by decide +kernel
theorem dX11_again_24 : decode cX11_again 24 = .ok (.iconst 0, 1) := by decide +kernel
theorem dX11_again_25 : decode cX11_again 25 = .ok (.istore_n 2, 1) := by decide +kernel
theorem dX11_again_26 : decode cX11_again 26 = .ok (.iload_n 2, 1) := by decide +kernel
theorem dX11_again_27 : decode cX11_again 27 = .ok (.bipush 24, 2) := by decide +kernel
theorem dX11_again_29 : decode cX11_again 29 = .ok (.if_icmp .ge 26, 3) := by decide +kernel
theorem dX11_again_32 : decode cX11_again 32 = .ok (.aload_n 0, 1) := by decide +kernel
theorem dX11_again_33 : decode cX11_again 33 = .ok (.getfield 22, 3) := by decide +kernel
theorem dX11_again_36 : decode cX11_again 36 = .ok (.iload_n 2, 1) := by decide +kernel
theorem dX11_again_37 : decode cX11_again 37 = .ok (.aload_n 0, 1) := by decide +kernel
theorem dX11_again_38 : decode cX11_again 38 = .ok (.getfield 59, 3) := by decide +kernel
theorem dX11_again_41 : decode cX11_again 41 = .ok (.bipush 25, 2) := by decide +kernel
theorem dX11_again_43 : decode cX11_again 43 = .ok (.iload_n 1, 1) := by decide +kernel
theorem dX11_again_44 : decode cX11_again 44 = .ok (.imul, 1) := by decide +kernel
theorem dX11_again_45 : decode cX11_again 45 = .ok (.iload_n 2, 1) := by decide +kernel
theorem dX11_again_46 : decode cX11_again 46 = .ok (.iadd, 1) := by decide +kernel
theorem dX11_again_47 : decode cX11_again 47 = .ok (.iaload, 1) := by decide +kernel
theorem dX11_again_48 : decode cX11_again 48 = .ok (.iastore, 1) := by decide +kernel
theorem dX11_again_49 : decode cX11_again 49 = .ok (.iinc 2 1, 3) := by decide +kernel
theorem dX11_again_52 : decode cX11_again 52 = .ok (.goto (-26), 3) := by decide +kernel
theorem dX11_again_55 : decode cX11_again 55 = .ok (.aload_n 0, 1) := by decide +kernel
theorem dX11_again_56 : decode cX11_again 56 = .ok (.aload_n 0, 1) := by decide +kernel
theorem dX11_again_57 : decode cX11_again 57 = .ok (.getfield 59, 3) := by decide +kernel
theorem dX11_again_60 : decode cX11_again 60 = .ok (.bipush 25, 2) := by decide +kernel
theorem dX11_again_62 : decode cX11_again 62 = .ok (.iload_n 1, 1) := by decide +kernel
theorem dX11_again_63 : decode cX11_again 63 = .ok (.imul, 1) := by decide +kernel
theorem dX11_again_64 : decode cX11_again 64 = .ok (.bipush 24, 2) := by decide +kernel
theorem dX11_again_66 : decode cX11_again 66 = .ok (.iadd, 1) := by decide +kernel
theorem dX11_again_67 : decode cX11_again 67 = .ok (.iaload, 1) := by decide +kernel
theorem dX11_again_68 : decode cX11_again 68 = .ok (.putfield 71, 3) := by decide +kernel
theorem dX11_again_71 : decode cX11_again 71 = .ok (.iconst 0, 1) := by decide +kernel
theorem dX11_again_72 : decode cX11_again 72 = .ok (.istore_n 2, 1) := by decide +kernel
theorem dX11_again_73 : decode cX11_again 73 = .ok (.iload_n 2, 1) := by decide +kernel
theorem dX11_again_74 : decode cX11_again 74 = .ok (.bipush 6, 2) := by decide +kernel
theorem dX11_again_76 : decode cX11_again 76 = .ok (.if_icmp .ge 43, 3) := by decide +kernel
theorem dX11_again_79 : decode cX11_again 79 = .ok (.aload_n 0, 1) := by decide +kernel
theorem dX11_again_80 : decode cX11_again 80 = .ok (.getfield 43, 3) := by decide +kernel
theorem dX11_again_83 : decode cX11_again 83 = .ok (.iload_n 2, 1) := by decide +kernel
theorem dX11_again_84 : decode cX11_again 84 = .ok (.aload_n 0, 1) := by decide +kernel
theorem dX11_again_85 : decode cX11_again 85 = .ok (.getfield 62, 3) := by decide +kernel
theorem dX11_again_88 : decode cX11_again 88 = .ok (.bipush 6, 2) := by decide +kernel
theorem dX11_again_90 : decode cX11_again 90 = .ok (.iload_n 1, 1) := by decide +kernel
theorem dX11_again_91 : decode cX11_again 91 = .ok (.imul, 1) := by decide +kernel
theorem dX11_again_92 : decode cX11_again 92 = .ok (.iload_n 2, 1) := by decide +kernel
theorem dX11_again_93 : decode cX11_again 93 = .ok (.iadd, 1) := by decide +kernel
theorem dX11_again_94 : decode cX11_again 94 = .ok (.iaload, 1) := by decide +kernel
theorem dX11_again_95 : decode cX11_again 95 = .ok (.iastore, 1) := by decide +kernel
theorem dX11_again_96 : decode cX11_again 96 = .ok (.aload_n 0, 1) := by decide +kernel
theorem dX11_again_97 : decode cX11_again 97 = .ok (.getfield 46, 3) := by decide +kernel
theorem dX11_again_100 : decode cX11_again 100 = .ok (.iload_n 2, 1) := by decide +kernel
theorem dX11_again_101 : decode cX11_again 101 = .ok (.aload_n 0, 1) := by decide +kernel
theorem dX11_again_102 : decode cX11_again 102 = .ok (.getfield 65, 3) := by decide +kernel
theorem dX11_again_105 : decode cX11_again 105 = .ok (.bipush 6, 2) := by decide +kernel
theorem dX11_again_107 : decode cX11_again 107 = .ok (.iload_n 1, 1) := by decide +kernel
theorem dX11_again_108 : decode cX11_again 108 = .ok (.imul, 1) := by decide +kernel
theorem dX11_again_109 : decode cX11_again 109 = .ok (.iload_n 2, 1) := by decide +kernel
theorem dX11_again_110 : decode cX11_again 110 = .ok (.iadd, 1) := by decide +kernel
theorem dX11_again_111 : decode cX11_again 111 = .ok (.iaload, 1) := by decide +kernel
theorem dX11_again_112 : decode cX11_again 112 = .ok (.iastore, 1) := by decide +kernel
theorem dX11_again_113 : decode cX11_again 113 = .ok (.iinc 2 1, 3) := by decide +kernel
theorem dX11_again_116 : decode cX11_again 116 = .ok (.goto (-43), 3) := by decide +kernel
theorem dX11_again_119 : decode cX11_again 119 = .ok (.aload_n 0, 1) := by decide +kernel
theorem dX11_again_120 : decode cX11_again 120 = .ok (.aload_n 0, 1) := by decide +kernel
theorem dX11_again_121 : decode cX11_again 121 = .ok (.getfield 68, 3) := by decide +kernel
theorem dX11_again_124 : decode cX11_again 124 = .ok (.iload_n 1, 1) := by decide +kernel
theorem dX11_again_125 : decode cX11_again 125 = .ok (.iaload, 1) := by decide +kernel
theorem dX11_again_126 : decode cX11_again 126 = .ok (.putfield 223, 3) := by decide +kernel
theorem dX11_again_129 : decode cX11_again 129 = .ok (.aload_n 0, 1) := by decide +kernel
theorem dX11_again_130 : decode cX11_again 130 = .ok (.iconst 0, 1) := by decide +kernel
theorem dX11_again_131 : decode cX11_again 131 = .ok (.putfield 150, 3) := by decide +kernel
theorem dX11_again_134 : decode cX11_again 134 = .ok (.aload_n 0, 1) := by decide +kernel
theorem dX11_again_135 : decode cX11_again 135 = .ok (.getfield 71, 3) := by decide +kernel
theorem dX11_again_138 : decode cX11_again 138 = .ok (.ireturn, 1) := by decide +kernel
theorem dX11_count_0 : decode cX11_count 0 = .ok (.iload_n 1, 1) := by decide +kernel
theorem dX11_count_1 : decode cX11_count 1 = .ok (.tableswitch 87 0 7 #[47, 52, 57, 62, 67, 72, 77, 82], 47) := by decide +kernel
theorem dX11_count_48 : decode cX11_count 48 = .ok (.aload_n 0, 1) := by decide +kernel
theorem dX11_count_49 : decode cX11_count 49 = .ok (.getfield 81, 3) := by decide +kernel
theorem dX11_count_52 : decode cX11_count 52 = .ok (.ireturn, 1) := by decide +kernel
theorem dX11_count_53 : decode cX11_count 53 = .ok (.aload_n 0, 1) := by decide +kernel
theorem dX11_count_54 : decode cX11_count 54 = .ok (.getfield 71, 3) := by decide +kernel
theorem dX11_count_57 : decode cX11_count 57 = .ok (.ireturn, 1) := by decide +kernel
theorem dX11_count_58 : decode cX11_count 58 = .ok (.aload_n 0, 1) := by decide +kernel
theorem dX11_count_59 : decode cX11_count 59 = .ok (.getfield 141, 3) := by decide +kernel
theorem dX11_count_62 : decode cX11_count 62 = .ok (.ireturn, 1) := by decide +kernel
theorem dX11_count_63 : decode cX11_count 63 = .ok (.aload_n 0, 1) := by decide +kernel
theorem dX11_count_64 : decode cX11_count 64 = .ok (.invokevirtual 214, 3) := by decide +kernel
theorem dX11_count_67 : decode cX11_count 67 = .ok (.ireturn, 1) := by decide +kernel
theorem dX11_count_68 : decode cX11_count 68 = .ok (.aload_n 0, 1) := by decide +kernel
theorem dX11_count_69 : decode cX11_count 69 = .ok (.getfield 223, 3) := by decide +kernel
theorem dX11_count_72 : decode cX11_count 72 = .ok (.ireturn, 1) := by decide +kernel
theorem dX11_count_73 : decode cX11_count 73 = .ok (.aload_n 0, 1) := by decide +kernel
theorem dX11_count_74 : decode cX11_count 74 = .ok (.getfield 150, 3) := by decide +kernel
theorem dX11_count_77 : decode cX11_count 77 = .ok (.ireturn, 1) := by decide +kernel
theorem dX11_count_78 : decode cX11_count 78 = .ok (.aload_n 0, 1) := by decide +kernel
theorem dX11_count_79 : decode cX11_count 79 = .ok (.getfield 144, 3) := by decide +kernel
theorem dX11_count_82 : decode cX11_count 82 = .ok (.ireturn, 1) := by decide +kernel
theorem dX11_count_83 : decode cX11_count 83 = .ok (.aload_n 0, 1) := by decide +kernel
theorem dX11_count_84 : decode cX11_count 84 = .ok (.getfield 147, 3) := by decide +kernel
theorem dX11_count_87 : decode cX11_count 87 = .ok (.ireturn, 1) := by decide +kernel
theorem dX11_count_88 : decode cX11_count 88 = .ok (.bipush (-2), 2) := by decide +kernel
theorem dX11_count_90 : decode cX11_count 90 = .ok (.ireturn, 1) := by decide +kernel
theorem dJ11_isValidCodePoint_9a6ad_0 : decode cJ11_isValidCodePoint_9a6ad 0 = .ok (.iload_n 0, 1) := by decide +kernel
theorem dJ11_isValidCodePoint_9a6ad_1 : decode cJ11_isValidCodePoint_9a6ad 1 = .ok (.bipush 16, 2) := by decide +kernel
theorem dJ11_isValidCodePoint_9a6ad_3 : decode cJ11_isValidCodePoint_9a6ad 3 = .ok (.iushr, 1) := by decide +kernel
theorem dJ11_isValidCodePoint_9a6ad_4 : decode cJ11_isValidCodePoint_9a6ad 4 = .ok (.istore_n 1, 1) := by decide +kernel
theorem dJ11_isValidCodePoint_9a6ad_5 : decode cJ11_isValidCodePoint_9a6ad 5 = .ok (.iload_n 1, 1) := by decide +kernel
theorem dJ11_isValidCodePoint_9a6ad_6 : decode cJ11_isValidCodePoint_9a6ad 6 = .ok (.bipush 17, 2) := by decide +kernel
theorem dJ11_isValidCodePoint_9a6ad_8 : decode cJ11_isValidCodePoint_9a6ad 8 = .ok (.if_icmp .ge 7, 3) := by decide +kernel
theorem dJ11_isValidCodePoint_9a6ad_11 : decode cJ11_isValidCodePoint_9a6ad 11 = .ok (.iconst 1, 1) := by decide +kernel
theorem dJ11_isValidCodePoint_9a6ad_12 : decode cJ11_isValidCodePoint_9a6ad 12 = .ok (.goto 4, 3) := by decide +kernel
theorem dJ11_isValidCodePoint_9a6ad_15 : decode cJ11_isValidCodePoint_9a6ad 15 = .ok (.iconst 0, 1) := by decide +kernel
theorem dJ11_isValidCodePoint_9a6ad_16 : decode cJ11_isValidCodePoint_9a6ad 16 = .ok (.ireturn, 1) := by decide +kernel
theorem dJ11_highSurrogate_5068e_0 : decode cJ11_highSurrogate_5068e 0 = .ok (.iload_n 0, 1) := by decide +kernel
theorem dJ11_highSurrogate_5068e_1 : decode cJ11_highSurrogate_5068e 1 = .ok (.bipush 10, 2) := by decide +kernel
theorem dJ11_highSurrogate_5068e_3 : decode cJ11_highSurrogate_5068e 3 = .ok (.iushr, 1) := by decide +kernel
theorem dJ11_highSurrogate_5068e_4 : decode cJ11_highSurrogate_5068e 4 = .ok (.ldc 110, 2) := by decide +kernel
theorem dJ11_highSurrogate_5068e_6 : decode cJ11_highSurrogate_5068e 6 = .ok (.iadd, 1) := by decide +kernel
theorem dJ11_highSurrogate_5068e_7 : decode cJ11_highSurrogate_5068e 7 = .ok (.i2c, 1) := by decide +kernel
theorem dJ11_highSurrogate_5068e_8 : decode cJ11_highSurrogate_5068e 8 = .ok (.ireturn, 1) := by decide +kernel
theorem dJ11_lowSurrogate_5068e_0 : decode cJ11_lowSurrogate_5068e 0 = .ok (.iload_n 0, 1) := by decide +kernel
theorem dJ11_lowSurrogate_5068e_1 : decode cJ11_lowSurrogate_5068e 1 = .ok (.sipush 1023, 3) := by decide +kernel
theorem dJ11_lowSurrogate_5068e_4 : decode cJ11_lowSurrogate_5068e 4 = .ok (.iand, 1) := by decide +kernel
theorem dJ11_lowSurrogate_5068e_5 : decode cJ11_lowSurrogate_5068e 5 = .ok (.ldc 76, 2) := by decide +kernel
theorem dJ11_lowSurrogate_5068e_7 : decode cJ11_lowSurrogate_5068e 7 = .ok (.iadd, 1) := by decide +kernel
theorem dJ11_lowSurrogate_5068e_8 : decode cJ11_lowSurrogate_5068e 8 = .ok (.i2c, 1) := by decide +kernel
theorem dJ11_lowSurrogate_5068e_9 : decode cJ11_lowSurrogate_5068e 9 = .ok (.ireturn, 1) := by decide +kernel
theorem dJ9_abs_0f7a4_0 : decode cJ9_abs_0f7a4 0 = .ok (.iload_n 0, 1) := by decide +kernel
theorem dJ9_abs_0f7a4_1 : decode cJ9_abs_0f7a4 1 = .ok (.ifCond .ge 8, 3) := by decide +kernel
theorem dJ9_abs_0f7a4_4 : decode cJ9_abs_0f7a4 4 = .ok (.iload_n 0, 1) := by decide +kernel
theorem dJ9_abs_0f7a4_5 : decode cJ9_abs_0f7a4 5 = .ok (.ineg, 1) := by decide +kernel
theorem dJ9_abs_0f7a4_6 : decode cJ9_abs_0f7a4 6 = .ok (.goto 4, 3) := by decide +kernel
theorem dJ9_abs_0f7a4_9 : decode cJ9_abs_0f7a4 9 = .ok (.iload_n 0, 1) := by decide +kernel
theorem dJ9_abs_0f7a4_10 : decode cJ9_abs_0f7a4 10 = .ok (.ireturn, 1) := by decide +kernel
theorem dJ9_max_7cf53_0 : decode cJ9_max_7cf53 0 = .ok (.iload_n 0, 1) := by decide +kernel
theorem dJ9_max_7cf53_1 : decode cJ9_max_7cf53 1 = .ok (.iload_n 1, 1) := by decide +kernel
theorem dJ9_max_7cf53_2 : decode cJ9_max_7cf53 2 = .ok (.if_icmp .lt 7, 3) := by decide +kernel
theorem dJ9_max_7cf53_5 : decode cJ9_max_7cf53 5 = .ok (.iload_n 0, 1) := by decide +kernel
theorem dJ9_max_7cf53_6 : decode cJ9_max_7cf53 6 = .ok (.goto 4, 3) := by decide +kernel
theorem dJ9_max_7cf53_9 : decode cJ9_max_7cf53 9 = .ok (.iload_n 1, 1) := by decide +kernel
theorem dJ9_max_7cf53_10 : decode cJ9_max_7cf53 10 = .ok (.ireturn, 1) := by decide +kernel
theorem dJ9_min_7cf53_0 : decode cJ9_min_7cf53 0 = .ok (.iload_n 0, 1) := by decide +kernel
theorem dJ9_min_7cf53_1 : decode cJ9_min_7cf53 1 = .ok (.iload_n 1, 1) := by decide +kernel
theorem dJ9_min_7cf53_2 : decode cJ9_min_7cf53 2 = .ok (.if_icmp .gt 7, 3) := by decide +kernel
theorem dJ9_min_7cf53_5 : decode cJ9_min_7cf53 5 = .ok (.iload_n 0, 1) := by decide +kernel
theorem dJ9_min_7cf53_6 : decode cJ9_min_7cf53 6 = .ok (.goto 4, 3) := by decide +kernel
theorem dJ9_min_7cf53_9 : decode cJ9_min_7cf53 9 = .ok (.iload_n 1, 1) := by decide +kernel
theorem dJ9_min_7cf53_10 : decode cJ9_min_7cf53 10 = .ok (.ireturn, 1) := by decide +kernel
theorem dJ0_length_8abf5_0 : decode cJ0_length_8abf5 0 = .ok (.aload_n 0, 1) := by decide +kernel
theorem dJ0_length_8abf5_1 : decode cJ0_length_8abf5 1 = .ok (.getfield 9, 3) := by decide +kernel
theorem dJ0_length_8abf5_4 : decode cJ0_length_8abf5 4 = .ok (.arraylength, 1) := by decide +kernel
theorem dJ0_length_8abf5_5 : decode cJ0_length_8abf5 5 = .ok (.aload_n 0, 1) := by decide +kernel
theorem dJ0_length_8abf5_6 : decode cJ0_length_8abf5 6 = .ok (.invokevirtual 335, 3) := by decide +kernel
theorem dJ0_length_8abf5_9 : decode cJ0_length_8abf5 9 = .ok (.ishr, 1) := by decide +kernel
theorem dJ0_length_8abf5_10 : decode cJ0_length_8abf5 10 = .ok (.ireturn, 1) := by decide +kernel
theorem dJ0_indexOf_0f7a4_0 : decode cJ0_indexOf_0f7a4 0 = .ok (.aload_n 0, 1) := by decide +kernel
theorem dJ0_indexOf_0f7a4_1 : decode cJ0_indexOf_0f7a4 1 = .ok (.iload_n 1, 1) := by decide +kernel
theorem dJ0_indexOf_0f7a4_2 : decode cJ0_indexOf_0f7a4 2 = .ok (.iconst 0, 1) := by decide +kernel
theorem dJ0_indexOf_0f7a4_3 : decode cJ0_indexOf_0f7a4 3 = .ok (.invokevirtual 633, 3) := by decide +kernel
theorem dJ0_indexOf_0f7a4_6 : decode cJ0_indexOf_0f7a4 6 = .ok (.ireturn, 1) := by decide +kernel
theorem dJ0_indexOf_7cf53_0 : decode cJ0_indexOf_7cf53 0 = .ok (.aload_n 0, 1) := by decide +kernel
theorem dJ0_indexOf_7cf53_1 : decode cJ0_indexOf_7cf53 1 = .ok (.invokevirtual 492, 3) := by decide +kernel
theorem dJ0_indexOf_7cf53_4 : decode cJ0_indexOf_7cf53 4 = .ok (.ifCond .eq 19, 3) := by decide +kernel
theorem dJ0_indexOf_7cf53_7 : decode cJ0_indexOf_7cf53 7 = .ok (.aload_n 0, 1) := by decide +kernel
theorem dJ0_indexOf_7cf53_8 : decode cJ0_indexOf_7cf53 8 = .ok (.getfield 9, 3) := by decide +kernel
theorem dJ0_indexOf_7cf53_11 : decode cJ0_indexOf_7cf53 11 = .ok (.iload_n 1, 1) := by decide +kernel
theorem dJ0_indexOf_7cf53_12 : decode cJ0_indexOf_7cf53 12 = .ok (.iload_n 2, 1) := by decide +kernel
theorem dJ0_indexOf_7cf53_13 : decode cJ0_indexOf_7cf53 13 = .ok (.aload_n 0, 1) := by decide +kernel
theorem dJ0_indexOf_7cf53_14 : decode cJ0_indexOf_7cf53 14 = .ok (.invokevirtual 505, 3) := by decide +kernel
theorem dJ0_indexOf_7cf53_17 : decode cJ0_indexOf_7cf53 17 = .ok (.invokestatic 637, 3) := by decide +kernel
theorem dJ0_indexOf_7cf53_20 : decode cJ0_indexOf_7cf53 20 = .ok (.goto 16, 3) := by decide +kernel
theorem dJ0_indexOf_7cf53_23 : decode cJ0_indexOf_7cf53 23 = .ok (.aload_n 0, 1) := by decide +kernel
theorem dJ0_indexOf_7cf53_24 : decode cJ0_indexOf_7cf53 24 = .ok (.getfield 9, 3) := by decide +kernel
theorem dJ0_indexOf_7cf53_27 : decode cJ0_indexOf_7cf53 27 = .ok (.iload_n 1, 1) := by decide +kernel
theorem dJ0_indexOf_7cf53_28 : decode cJ0_indexOf_7cf53 28 = .ok (.iload_n 2, 1) := by decide +kernel
theorem dJ0_indexOf_7cf53_29 : decode cJ0_indexOf_7cf53 29 = .ok (.aload_n 0, 1) := by decide +kernel
theorem dJ0_indexOf_7cf53_30 : decode cJ0_indexOf_7cf53 30 = .ok (.invokevirtual 505, 3) := by decide +kernel
theorem dJ0_indexOf_7cf53_33 : decode cJ0_indexOf_7cf53 33 = .ok (.invokestatic 640, 3) := by decide +kernel
theorem dJ0_indexOf_7cf53_36 : decode cJ0_indexOf_7cf53 36 = .ok (.ireturn, 1) := by decide +kernel
theorem dJ0_coder_7d493_0 : decode cJ0_coder_7d493 0 = .ok (.getstatic 38, 3) := by decide +kernel
theorem dJ0_coder_7d493_3 : decode cJ0_coder_7d493 3 = .ok (.ifCond .eq 10, 3) := by decide +kernel
theorem dJ0_coder_7d493_6 : decode cJ0_coder_7d493 6 = .ok (.aload_n 0, 1) := by decide +kernel
theorem dJ0_coder_7d493_7 : decode cJ0_coder_7d493 7 = .ok (.getfield 15, 3) := by decide +kernel
theorem dJ0_coder_7d493_10 : decode cJ0_coder_7d493 10 = .ok (.goto 4, 3) := by decide +kernel
theorem dJ0_coder_7d493_13 : decode cJ0_coder_7d493 13 = .ok (.iconst 1, 1) := by decide +kernel
theorem dJ0_coder_7d493_14 : decode cJ0_coder_7d493 14 = .ok (.ireturn, 1) := by decide +kernel
theorem dJ0_isLatin1_aae02_0 : decode cJ0_isLatin1_aae02 0 = .ok (.getstatic 38, 3) := by decide +kernel
theorem dJ0_isLatin1_aae02_3 : decode cJ0_isLatin1_aae02 3 = .ok (.ifCond .eq 14, 3) := by decide +kernel
theorem dJ0_isLatin1_aae02_6 : decode cJ0_isLatin1_aae02 6 = .ok (.aload_n 0, 1) := by decide +kernel
theorem dJ0_isLatin1_aae02_7 : decode cJ0_isLatin1_aae02 7 = .ok (.getfield 15, 3) := by decide +kernel
theorem dJ0_isLatin1_aae02_10 : decode cJ0_isLatin1_aae02 10 = .ok (.ifCond .ne 7, 3) := by decide +kernel
theorem dJ0_isLatin1_aae02_13 : decode cJ0_isLatin1_aae02 13 = .ok (.iconst 1, 1) := by decide +kernel
theorem dJ0_isLatin1_aae02_14 : decode cJ0_isLatin1_aae02 14 = .ok (.goto 4, 3) := by decide +kernel
theorem dJ0_isLatin1_aae02_17 : decode cJ0_isLatin1_aae02 17 = .ok (.iconst 0, 1) := by decide +kernel
theorem dJ0_isLatin1_aae02_18 : decode cJ0_isLatin1_aae02 18 = .ok (.ireturn, 1) := by decide +kernel
theorem dJ0_checkBoundsBeginEnd_23922_0 : decode cJ0_checkBoundsBeginEnd_23922 0 = .ok (.iload_n 0, 1) := by decide +kernel
theorem dJ0_checkBoundsBeginEnd_23922_1 : decode cJ0_checkBoundsBeginEnd_23922 1 = .ok (.iload_n 1, 1) := by decide +kernel
theorem dJ0_checkBoundsBeginEnd_23922_2 : decode cJ0_checkBoundsBeginEnd_23922 2 = .ok (.iload_n 2, 1) := by decide +kernel
theorem dJ0_checkBoundsBeginEnd_23922_3 : decode cJ0_checkBoundsBeginEnd_23922 3 = .ok (.getstatic 1053, 3) := by decide +kernel
theorem dJ0_checkBoundsBeginEnd_23922_6 : decode cJ0_checkBoundsBeginEnd_23922 6 = .ok (.invokestatic 1062, 3) := by decide +kernel
theorem dJ0_checkBoundsBeginEnd_23922_9 : decode cJ0_checkBoundsBeginEnd_23922 9 = .ok (.pop, 1) := by decide +kernel
theorem dJ0_checkBoundsBeginEnd_23922_10 : decode cJ0_checkBoundsBeginEnd_23922 10 = .ok (.return_, 1) := by decide +kernel
theorem dJ1_canEncode_9a6ad_0 : decode cJ1_canEncode_9a6ad 0 = .ok (.iload_n 0, 1) := by decide +kernel
theorem dJ1_canEncode_9a6ad_1 : decode cJ1_canEncode_9a6ad 1 = .ok (.ifCond .lt 14, 3) := by decide +kernel
theorem dJ1_canEncode_9a6ad_4 : decode cJ1_canEncode_9a6ad 4 = .ok (.iload_n 0, 1) := by decide +kernel
theorem dJ1_canEncode_9a6ad_5 : decode cJ1_canEncode_9a6ad 5 = .ok (.sipush 255, 3) := by decide +kernel
theorem dJ1_canEncode_9a6ad_8 : decode cJ1_canEncode_9a6ad 8 = .ok (.if_icmp .gt 7, 3) := by decide +kernel
theorem dJ1_canEncode_9a6ad_11 : decode cJ1_canEncode_9a6ad 11 = .ok (.iconst 1, 1) := by decide +kernel
theorem dJ1_canEncode_9a6ad_12 : decode cJ1_canEncode_9a6ad 12 = .ok (.goto 4, 3) := by decide +kernel
theorem dJ1_canEncode_9a6ad_15 : decode cJ1_canEncode_9a6ad 15 = .ok (.iconst 0, 1) := by decide +kernel
theorem dJ1_canEncode_9a6ad_16 : decode cJ1_canEncode_9a6ad 16 = .ok (.ireturn, 1) := by decide +kernel
theorem dJ1_indexOf_4cfef_0 : decode cJ1_indexOf_4cfef 0 = .ok (.iload_n 1, 1) := by decide +kernel
theorem dJ1_indexOf_4cfef_1 : decode cJ1_indexOf_4cfef 1 = .ok (.invokestatic 88, 3) := by decide +kernel
theorem dJ1_indexOf_4cfef_4 : decode cJ1_indexOf_4cfef 4 = .ok (.ifCond .ne 5, 3) := by decide +kernel
theorem dJ1_indexOf_4cfef_7 : decode cJ1_indexOf_4cfef 7 = .ok (.iconst (-1), 1) := by decide +kernel
theorem dJ1_indexOf_4cfef_8 : decode cJ1_indexOf_4cfef 8 = .ok (.ireturn, 1) := by decide +kernel
theorem dJ1_indexOf_4cfef_9 : decode cJ1_indexOf_4cfef 9 = .ok (.iload_n 2, 1) := by decide +kernel
theorem dJ1_indexOf_4cfef_10 : decode cJ1_indexOf_4cfef 10 = .ok (.iconst 0, 1) := by decide +kernel
theorem dJ1_indexOf_4cfef_11 : decode cJ1_indexOf_4cfef 11 = .ok (.invokestatic 92, 3) := by decide +kernel
theorem dJ1_indexOf_4cfef_14 : decode cJ1_indexOf_4cfef 14 = .ok (.istore_n 2, 1) := by decide +kernel
theorem dJ1_indexOf_4cfef_15 : decode cJ1_indexOf_4cfef 15 = .ok (.iload_n 3, 1) := by decide +kernel
theorem dJ1_indexOf_4cfef_16 : decode cJ1_indexOf_4cfef 16 = .ok (.aload_n 0, 1) := by decide +kernel
theorem dJ1_indexOf_4cfef_17 : decode cJ1_indexOf_4cfef 17 = .ok (.arraylength, 1) := by decide +kernel
theorem dJ1_indexOf_4cfef_18 : decode cJ1_indexOf_4cfef 18 = .ok (.invokestatic 38, 3) := by decide +kernel
theorem dJ1_indexOf_4cfef_21 : decode cJ1_indexOf_4cfef 21 = .ok (.istore_n 3, 1) := by decide +kernel
theorem dJ1_indexOf_4cfef_22 : decode cJ1_indexOf_4cfef 22 = .ok (.iload_n 2, 1) := by decide +kernel
theorem dJ1_indexOf_4cfef_23 : decode cJ1_indexOf_4cfef 23 = .ok (.iload_n 3, 1) := by decide +kernel
theorem dJ1_indexOf_4cfef_24 : decode cJ1_indexOf_4cfef 24 = .ok (.if_icmp .lt 5, 3) := by decide +kernel
theorem dJ1_indexOf_4cfef_27 : decode cJ1_indexOf_4cfef 27 = .ok (.iconst (-1), 1) := by decide +kernel
theorem dJ1_indexOf_4cfef_28 : decode cJ1_indexOf_4cfef 28 = .ok (.ireturn, 1) := by decide +kernel
theorem dJ1_indexOf_4cfef_29 : decode cJ1_indexOf_4cfef 29 = .ok (.aload_n 0, 1) := by decide +kernel
theorem dJ1_indexOf_4cfef_30 : decode cJ1_indexOf_4cfef 30 = .ok (.iload_n 1, 1) := by decide +kernel
theorem dJ1_indexOf_4cfef_31 : decode cJ1_indexOf_4cfef 31 = .ok (.iload_n 2, 1) := by decide +kernel
theorem dJ1_indexOf_4cfef_32 : decode cJ1_indexOf_4cfef 32 = .ok (.iload_n 3, 1) := by decide +kernel
theorem dJ1_indexOf_4cfef_33 : decode cJ1_indexOf_4cfef 33 = .ok (.invokestatic 95, 3) := by decide +kernel
theorem dJ1_indexOf_4cfef_36 : decode cJ1_indexOf_4cfef 36 = .ok (.ireturn, 1) := by decide +kernel
theorem dJ1_indexOfChar_4cfef_0 : decode cJ1_indexOfChar_4cfef 0 = .ok (.iload_n 1, 1) := by decide +kernel
theorem dJ1_indexOfChar_4cfef_1 : decode cJ1_indexOfChar_4cfef 1 = .ok (.i2b, 1) := by decide +kernel
theorem dJ1_indexOfChar_4cfef_2 : decode cJ1_indexOfChar_4cfef 2 = .ok (.istore 4, 2) := by decide +kernel
theorem dJ1_indexOfChar_4cfef_4 : decode cJ1_indexOfChar_4cfef 4 = .ok (.iload_n 2, 1) := by decide +kernel
theorem dJ1_indexOfChar_4cfef_5 : decode cJ1_indexOfChar_4cfef 5 = .ok (.istore 5, 2) := by decide +kernel
theorem dJ1_indexOfChar_4cfef_7 : decode cJ1_indexOfChar_4cfef 7 = .ok (.iload 5, 2) := by decide +kernel
theorem dJ1_indexOfChar_4cfef_9 : decode cJ1_indexOfChar_4cfef 9 = .ok (.iload_n 3, 1) := by decide +kernel
theorem dJ1_indexOfChar_4cfef_10 : decode cJ1_indexOfChar_4cfef 10 = .ok (.if_icmp .ge 21, 3) := by decide +kernel
theorem dJ1_indexOfChar_4cfef_13 : decode cJ1_indexOfChar_4cfef 13 = .ok (.aload_n 0, 1) := by decide +kernel
theorem dJ1_indexOfChar_4cfef_14 : decode cJ1_indexOfChar_4cfef 14 = .ok (.iload 5, 2) := by decide +kernel
theorem dJ1_indexOfChar_4cfef_16 : decode cJ1_indexOfChar_4cfef 16 = .ok (.baload, 1) := by decide +kernel
theorem dJ1_indexOfChar_4cfef_17 : decode cJ1_indexOfChar_4cfef 17 = .ok (.iload 4, 2) := by decide +kernel
theorem dJ1_indexOfChar_4cfef_19 : decode cJ1_indexOfChar_4cfef 19 = .ok (.if_icmp .ne 6, 3) := by decide +kernel
theorem dJ1_indexOfChar_4cfef_22 : decode cJ1_indexOfChar_4cfef 22 = .ok (.iload 5, 2) := by decide +kernel
theorem dJ1_indexOfChar_4cfef_24 : decode cJ1_indexOfChar_4cfef 24 = .ok (.ireturn, 1) := by decide +kernel
theorem dJ1_indexOfChar_4cfef_25 : decode cJ1_indexOfChar_4cfef 25 = .ok (.iinc 5 1, 3) := by decide +kernel
theorem dJ1_indexOfChar_4cfef_28 : decode cJ1_indexOfChar_4cfef 28 = .ok (.goto (-21), 3) := by decide +kernel
theorem dJ1_indexOfChar_4cfef_31 : decode cJ1_indexOfChar_4cfef 31 = .ok (.iconst (-1), 1) := by decide +kernel
theorem dJ1_indexOfChar_4cfef_32 : decode cJ1_indexOfChar_4cfef 32 = .ok (.ireturn, 1) := by decide +kernel
theorem dJ2_getChar_3b067_0 : decode cJ2_getChar_3b067 0 = .ok (.getstatic 44, 3) := by decide +kernel
theorem dJ2_getChar_3b067_3 : decode cJ2_getChar_3b067 3 = .ok (.ifCond .ne 25, 3) := by decide +kernel
theorem dJ2_getChar_3b067_6 : decode cJ2_getChar_3b067 6 = .ok (.iload_n 1, 1) := by decide +kernel
theorem dJ2_getChar_3b067_7 : decode cJ2_getChar_3b067 7 = .ok (.ifCond .lt 11, 3) := by decide +kernel
theorem dJ2_getChar_3b067_10 : decode cJ2_getChar_3b067 10 = .ok (.iload_n 1, 1) := by decide +kernel
theorem dJ2_getChar_3b067_11 : decode cJ2_getChar_3b067 11 = .ok (.aload_n 0, 1) := by decide +kernel
theorem dJ2_getChar_3b067_12 : decode cJ2_getChar_3b067 12 = .ok (.invokestatic 48, 3) := by decide +kernel
theorem dJ2_getChar_3b067_15 : decode cJ2_getChar_3b067 15 = .ok (.if_icmp .lt 13, 3) := by decide +kernel
theorem dJ2_getChar_3b067_18 : decode cJ2_getChar_3b067 18 = .ok (.new 52, 3) := by decide +kernel
theorem dJ2_getChar_3b067_21 : decode cJ2_getChar_3b067 21 = .ok (.dup, 1) := by decide +kernel
theorem dJ2_getChar_3b067_22 : decode cJ2_getChar_3b067 22 = .ok (.ldc 54, 2) := by decide +kernel
theorem dJ2_getChar_3b067_24 : decode cJ2_getChar_3b067 24 = .ok (.invokespecial 56, 3) := by decide +kernel
theorem dJ2_getChar_3b067_27 : decode cJ2_getChar_3b067 27 = .ok (.athrow, 1) := by decide +kernel
theorem dJ2_getChar_3b067_28 : decode cJ2_getChar_3b067 28 = .ok (.iload_n 1, 1) := by decide +kernel
theorem dJ2_getChar_3b067_29 : decode cJ2_getChar_3b067 29 = .ok (.iconst 1, 1) := by decide +kernel
theorem dJ2_getChar_3b067_30 : decode cJ2_getChar_3b067 30 = .ok (.ishl, 1) := by decide +kernel
theorem dJ2_getChar_3b067_31 : decode cJ2_getChar_3b067 31 = .ok (.istore_n 1, 1) := by decide +kernel
theorem dJ2_getChar_3b067_32 : decode cJ2_getChar_3b067 32 = .ok (.aload_n 0, 1) := by decide +kernel
theorem dJ2_getChar_3b067_33 : decode cJ2_getChar_3b067 33 = .ok (.iload_n 1, 1) := by decide +kernel
theorem dJ2_getChar_3b067_34 : decode cJ2_getChar_3b067 34 = .ok (.iinc 1 1, 3) := by decide +kernel
theorem dJ2_getChar_3b067_37 : decode cJ2_getChar_3b067 37 = .ok (.baload, 1) := by decide +kernel
theorem dJ2_getChar_3b067_38 : decode cJ2_getChar_3b067 38 = .ok (.sipush 255, 3) := by decide +kernel
theorem dJ2_getChar_3b067_41 : decode cJ2_getChar_3b067 41 = .ok (.iand, 1) := by decide +kernel
theorem dJ2_getChar_3b067_42 : decode cJ2_getChar_3b067 42 = .ok (.getstatic 59, 3) := by decide +kernel
theorem dJ2_getChar_3b067_45 : decode cJ2_getChar_3b067 45 = .ok (.ishl, 1) := by decide +kernel
theorem dJ2_getChar_3b067_46 : decode cJ2_getChar_3b067 46 = .ok (.aload_n 0, 1) := by decide +kernel
theorem dJ2_getChar_3b067_47 : decode cJ2_getChar_3b067 47 = .ok (.iload_n 1, 1) := by decide +kernel
theorem dJ2_getChar_3b067_48 : decode cJ2_getChar_3b067 48 = .ok (.baload, 1) := by decide +kernel
theorem dJ2_getChar_3b067_49 : decode cJ2_getChar_3b067 49 = .ok (.sipush 255, 3) := by decide +kernel
theorem dJ2_getChar_3b067_52 : decode cJ2_getChar_3b067 52 = .ok (.iand, 1) := by decide +kernel
theorem dJ2_getChar_3b067_53 : decode cJ2_getChar_3b067 53 = .ok (.getstatic 63, 3) := by decide +kernel
theorem dJ2_getChar_3b067_56 : decode cJ2_getChar_3b067 56 = .ok (.ishl, 1) := by decide +kernel
theorem dJ2_getChar_3b067_57 : decode cJ2_getChar_3b067 57 = .ok (.ior, 1) := by decide +kernel
theorem dJ2_getChar_3b067_58 : decode cJ2_getChar_3b067 58 = .ok (.i2c, 1) := by decide +kernel
theorem dJ2_getChar_3b067_59 : decode cJ2_getChar_3b067 59 = .ok (.ireturn, 1) := by decide +kernel
theorem dJ2_length_9d52b_0 : decode cJ2_length_9d52b 0 = .ok (.aload_n 0, 1) := by decide +kernel
theorem dJ2_length_9d52b_1 : decode cJ2_length_9d52b 1 = .ok (.arraylength, 1) := by decide +kernel
theorem dJ2_length_9d52b_2 : decode cJ2_length_9d52b 2 = .ok (.iconst 1, 1) := by decide +kernel
theorem dJ2_length_9d52b_3 : decode cJ2_length_9d52b 3 = .ok (.ishr, 1) := by decide +kernel
theorem dJ2_length_9d52b_4 : decode cJ2_length_9d52b 4 = .ok (.ireturn, 1) := by decide +kernel
theorem dJ2_indexOf_4cfef_0 : decode cJ2_indexOf_4cfef 0 = .ok (.iload_n 2, 1) := by decide +kernel
theorem dJ2_indexOf_4cfef_1 : decode cJ2_indexOf_4cfef 1 = .ok (.iconst 0, 1) := by decide +kernel
theorem dJ2_indexOf_4cfef_2 : decode cJ2_indexOf_4cfef 2 = .ok (.invokestatic 224, 3) := by decide +kernel
theorem dJ2_indexOf_4cfef_5 : decode cJ2_indexOf_4cfef 5 = .ok (.istore_n 2, 1) := by decide +kernel
theorem dJ2_indexOf_4cfef_6 : decode cJ2_indexOf_4cfef 6 = .ok (.iload_n 3, 1) := by decide +kernel
theorem dJ2_indexOf_4cfef_7 : decode cJ2_indexOf_4cfef 7 = .ok (.aload_n 0, 1) := by decide +kernel
theorem dJ2_indexOf_4cfef_8 : decode cJ2_indexOf_4cfef 8 = .ok (.arraylength, 1) := by decide +kernel
theorem dJ2_indexOf_4cfef_9 : decode cJ2_indexOf_4cfef 9 = .ok (.iconst 1, 1) := by decide +kernel
theorem dJ2_indexOf_4cfef_10 : decode cJ2_indexOf_4cfef 10 = .ok (.ishr, 1) := by decide +kernel
theorem dJ2_indexOf_4cfef_11 : decode cJ2_indexOf_4cfef 11 = .ok (.invokestatic 183, 3) := by decide +kernel
theorem dJ2_indexOf_4cfef_14 : decode cJ2_indexOf_4cfef 14 = .ok (.istore_n 3, 1) := by decide +kernel
theorem dJ2_indexOf_4cfef_15 : decode cJ2_indexOf_4cfef 15 = .ok (.iload_n 2, 1) := by decide +kernel
theorem dJ2_indexOf_4cfef_16 : decode cJ2_indexOf_4cfef 16 = .ok (.iload_n 3, 1) := by decide +kernel
theorem dJ2_indexOf_4cfef_17 : decode cJ2_indexOf_4cfef 17 = .ok (.if_icmp .lt 5, 3) := by decide +kernel
theorem dJ2_indexOf_4cfef_20 : decode cJ2_indexOf_4cfef 20 = .ok (.iconst (-1), 1) := by decide +kernel
theorem dJ2_indexOf_4cfef_21 : decode cJ2_indexOf_4cfef 21 = .ok (.ireturn, 1) := by decide +kernel
theorem dJ2_indexOf_4cfef_22 : decode cJ2_indexOf_4cfef 22 = .ok (.iload_n 1, 1) := by decide +kernel
theorem dJ2_indexOf_4cfef_23 : decode cJ2_indexOf_4cfef 23 = .ok (.ldc 227, 2) := by decide +kernel
theorem dJ2_indexOf_4cfef_25 : decode cJ2_indexOf_4cfef 25 = .ok (.if_icmp .ge 11, 3) := by decide +kernel
theorem dJ2_indexOf_4cfef_28 : decode cJ2_indexOf_4cfef 28 = .ok (.aload_n 0, 1) := by decide +kernel
theorem dJ2_indexOf_4cfef_29 : decode cJ2_indexOf_4cfef 29 = .ok (.iload_n 1, 1) := by decide +kernel
theorem dJ2_indexOf_4cfef_30 : decode cJ2_indexOf_4cfef 30 = .ok (.iload_n 2, 1) := by decide +kernel
theorem dJ2_indexOf_4cfef_31 : decode cJ2_indexOf_4cfef 31 = .ok (.iload_n 3, 1) := by decide +kernel
theorem dJ2_indexOf_4cfef_32 : decode cJ2_indexOf_4cfef 32 = .ok (.invokestatic 228, 3) := by decide +kernel
theorem dJ2_indexOf_4cfef_35 : decode cJ2_indexOf_4cfef 35 = .ok (.ireturn, 1) := by decide +kernel
theorem dJ2_indexOf_4cfef_36 : decode cJ2_indexOf_4cfef 36 = .ok (.aload_n 0, 1) := by decide +kernel
theorem dJ2_indexOf_4cfef_37 : decode cJ2_indexOf_4cfef 37 = .ok (.iload_n 1, 1) := by decide +kernel
theorem dJ2_indexOf_4cfef_38 : decode cJ2_indexOf_4cfef 38 = .ok (.iload_n 2, 1) := by decide +kernel
theorem dJ2_indexOf_4cfef_39 : decode cJ2_indexOf_4cfef 39 = .ok (.iload_n 3, 1) := by decide +kernel
theorem dJ2_indexOf_4cfef_40 : decode cJ2_indexOf_4cfef 40 = .ok (.invokestatic 232, 3) := by decide +kernel
theorem dJ2_indexOf_4cfef_43 : decode cJ2_indexOf_4cfef 43 = .ok (.ireturn, 1) := by decide +kernel
theorem dJ2_indexOfChar_4cfef_0 : decode cJ2_indexOfChar_4cfef 0 = .ok (.iload_n 2, 1) := by decide +kernel
theorem dJ2_indexOfChar_4cfef_1 : decode cJ2_indexOfChar_4cfef 1 = .ok (.iload_n 3, 1) := by decide +kernel
theorem dJ2_indexOfChar_4cfef_2 : decode cJ2_indexOfChar_4cfef 2 = .ok (.aload_n 0, 1) := by decide +kernel
theorem dJ2_indexOfChar_4cfef_3 : decode cJ2_indexOfChar_4cfef 3 = .ok (.invokestatic 96, 3) := by decide +kernel
theorem dJ2_indexOfChar_4cfef_6 : decode cJ2_indexOfChar_4cfef 6 = .ok (.aload_n 0, 1) := by decide +kernel
theorem dJ2_indexOfChar_4cfef_7 : decode cJ2_indexOfChar_4cfef 7 = .ok (.iload_n 1, 1) := by decide +kernel
theorem dJ2_indexOfChar_4cfef_8 : decode cJ2_indexOfChar_4cfef 8 = .ok (.iload_n 2, 1) := by decide +kernel
theorem dJ2_indexOfChar_4cfef_9 : decode cJ2_indexOfChar_4cfef 9 = .ok (.iload_n 3, 1) := by decide +kernel
theorem dJ2_indexOfChar_4cfef_10 : decode cJ2_indexOfChar_4cfef 10 = .ok (.invokestatic 244, 3) := by decide +kernel
theorem dJ2_indexOfChar_4cfef_13 : decode cJ2_indexOfChar_4cfef 13 = .ok (.ireturn, 1) := by decide +kernel
theorem dJ2_indexOfCharUnsafe_4cfef_0 : decode cJ2_indexOfCharUnsafe_4cfef 0 = .ok (.iload_n 2, 1) := by decide +kernel
theorem dJ2_indexOfCharUnsafe_4cfef_1 : decode cJ2_indexOfCharUnsafe_4cfef 1 = .ok (.istore 4, 2) := by decide +kernel
theorem dJ2_indexOfCharUnsafe_4cfef_3 : decode cJ2_indexOfCharUnsafe_4cfef 3 = .ok (.iload 4, 2) := by decide +kernel
theorem dJ2_indexOfCharUnsafe_4cfef_5 : decode cJ2_indexOfCharUnsafe_4cfef 5 = .ok (.iload_n 3, 1) := by decide +kernel
theorem dJ2_indexOfCharUnsafe_4cfef_6 : decode cJ2_indexOfCharUnsafe_4cfef 6 = .ok (.if_icmp .ge 22, 3) := by decide +kernel
theorem dJ2_indexOfCharUnsafe_4cfef_9 : decode cJ2_indexOfCharUnsafe_4cfef 9 = .ok (.aload_n 0, 1) := by decide +kernel
theorem dJ2_indexOfCharUnsafe_4cfef_10 : decode cJ2_indexOfCharUnsafe_4cfef 10 = .ok (.iload 4, 2) := by decide +kernel
theorem dJ2_indexOfCharUnsafe_4cfef_12 : decode cJ2_indexOfCharUnsafe_4cfef 12 = .ok (.invokestatic 71, 3) := by decide +kernel
theorem dJ2_indexOfCharUnsafe_4cfef_15 : decode cJ2_indexOfCharUnsafe_4cfef 15 = .ok (.iload_n 1, 1) := by decide +kernel
theorem dJ2_indexOfCharUnsafe_4cfef_16 : decode cJ2_indexOfCharUnsafe_4cfef 16 = .ok (.if_icmp .ne 6, 3) := by decide +kernel
theorem dJ2_indexOfCharUnsafe_4cfef_19 : decode cJ2_indexOfCharUnsafe_4cfef 19 = .ok (.iload 4, 2) := by decide +kernel
theorem dJ2_indexOfCharUnsafe_4cfef_21 : decode cJ2_indexOfCharUnsafe_4cfef 21 = .ok (.ireturn, 1) := by decide +kernel
theorem dJ2_indexOfCharUnsafe_4cfef_22 : decode cJ2_indexOfCharUnsafe_4cfef 22 = .ok (.iinc 4 1, 3) := by decide +kernel
theorem dJ2_indexOfCharUnsafe_4cfef_25 : decode cJ2_indexOfCharUnsafe_4cfef 25 = .ok (.goto (-22), 3) := by decide +kernel
theorem dJ2_indexOfCharUnsafe_4cfef_28 : decode cJ2_indexOfCharUnsafe_4cfef 28 = .ok (.iconst (-1), 1) := by decide +kernel
theorem dJ2_indexOfCharUnsafe_4cfef_29 : decode cJ2_indexOfCharUnsafe_4cfef 29 = .ok (.ireturn, 1) := by decide +kernel
theorem dJ2_indexOfSupplementary_4cfef_0 : decode cJ2_indexOfSupplementary_4cfef 0 = .ok (.iload_n 1, 1) := by decide +kernel
theorem dJ2_indexOfSupplementary_4cfef_1 : decode cJ2_indexOfSupplementary_4cfef 1 = .ok (.invokestatic 164, 3) := by decide +kernel
theorem dJ2_indexOfSupplementary_4cfef_4 : decode cJ2_indexOfSupplementary_4cfef 4 = .ok (.ifCond .eq 65, 3) := by decide +kernel
theorem dJ2_indexOfSupplementary_4cfef_7 : decode cJ2_indexOfSupplementary_4cfef 7 = .ok (.iload_n 1, 1) := by decide +kernel
theorem dJ2_indexOfSupplementary_4cfef_8 : decode cJ2_indexOfSupplementary_4cfef 8 = .ok (.invokestatic 157, 3) := by decide +kernel
theorem dJ2_indexOfSupplementary_4cfef_11 : decode cJ2_indexOfSupplementary_4cfef 11 = .ok (.istore 4, 2) := by decide +kernel
theorem dJ2_indexOfSupplementary_4cfef_13 : decode cJ2_indexOfSupplementary_4cfef 13 = .ok (.iload_n 1, 1) := by decide +kernel
theorem dJ2_indexOfSupplementary_4cfef_14 : decode cJ2_indexOfSupplementary_4cfef 14 = .ok (.invokestatic 161, 3) := by decide +kernel
theorem dJ2_indexOfSupplementary_4cfef_17 : decode cJ2_indexOfSupplementary_4cfef 17 = .ok (.istore 5, 2) := by decide +kernel
theorem dJ2_indexOfSupplementary_4cfef_19 : decode cJ2_indexOfSupplementary_4cfef 19 = .ok (.iload_n 2, 1) := by decide +kernel
theorem dJ2_indexOfSupplementary_4cfef_20 : decode cJ2_indexOfSupplementary_4cfef 20 = .ok (.iload_n 3, 1) := by decide +kernel
theorem dJ2_indexOfSupplementary_4cfef_21 : decode cJ2_indexOfSupplementary_4cfef 21 = .ok (.aload_n 0, 1) := by decide +kernel
theorem dJ2_indexOfSupplementary_4cfef_22 : decode cJ2_indexOfSupplementary_4cfef 22 = .ok (.invokestatic 96, 3) := by decide +kernel
theorem dJ2_indexOfSupplementary_4cfef_25 : decode cJ2_indexOfSupplementary_4cfef 25 = .ok (.iload_n 2, 1) := by decide +kernel
theorem dJ2_indexOfSupplementary_4cfef_26 : decode cJ2_indexOfSupplementary_4cfef 26 = .ok (.istore 6, 2) := by decide +kernel
theorem dJ2_indexOfSupplementary_4cfef_28 : decode cJ2_indexOfSupplementary_4cfef 28 = .ok (.iload 6, 2) := by decide +kernel
theorem dJ2_indexOfSupplementary_4cfef_30 : decode cJ2_indexOfSupplementary_4cfef 30 = .ok (.iload_n 3, 1) := by decide +kernel
theorem dJ2_indexOfSupplementary_4cfef_31 : decode cJ2_indexOfSupplementary_4cfef 31 = .ok (.iconst 1, 1) := by decide +kernel
theorem dJ2_indexOfSupplementary_4cfef_32 : decode cJ2_indexOfSupplementary_4cfef 32 = .ok (.isub, 1) := by decide +kernel
theorem dJ2_indexOfSupplementary_4cfef_33 : decode cJ2_indexOfSupplementary_4cfef 33 = .ok (.if_icmp .ge 36, 3) := by decide +kernel
theorem dJ2_indexOfSupplementary_4cfef_36 : decode cJ2_indexOfSupplementary_4cfef 36 = .ok (.aload_n 0, 1) := by decide +kernel
theorem dJ2_indexOfSupplementary_4cfef_37 : decode cJ2_indexOfSupplementary_4cfef 37 = .ok (.iload 6, 2) := by decide +kernel
theorem dJ2_indexOfSupplementary_4cfef_39 : decode cJ2_indexOfSupplementary_4cfef 39 = .ok (.invokestatic 71, 3) := by decide +kernel
theorem dJ2_indexOfSupplementary_4cfef_42 : decode cJ2_indexOfSupplementary_4cfef 42 = .ok (.iload 4, 2) := by decide +kernel
theorem dJ2_indexOfSupplementary_4cfef_44 : decode cJ2_indexOfSupplementary_4cfef 44 = .ok (.if_icmp .ne 19, 3) := by decide +kernel
theorem dJ2_indexOfSupplementary_4cfef_47 : decode cJ2_indexOfSupplementary_4cfef 47 = .ok (.aload_n 0, 1) := by decide +kernel
theorem dJ2_indexOfSupplementary_4cfef_48 : decode cJ2_indexOfSupplementary_4cfef 48 = .ok (.iload 6, 2) := by decide +kernel
theorem dJ2_indexOfSupplementary_4cfef_50 : decode cJ2_indexOfSupplementary_4cfef 50 = .ok (.iconst 1, 1) := by decide +kernel
theorem dJ2_indexOfSupplementary_4cfef_51 : decode cJ2_indexOfSupplementary_4cfef 51 = .ok (.iadd, 1) := by decide +kernel
theorem dJ2_indexOfSupplementary_4cfef_52 : decode cJ2_indexOfSupplementary_4cfef 52 = .ok (.invokestatic 71, 3) := by decide +kernel
theorem dJ2_indexOfSupplementary_4cfef_55 : decode cJ2_indexOfSupplementary_4cfef 55 = .ok (.iload 5, 2) := by decide +kernel
theorem dJ2_indexOfSupplementary_4cfef_57 : decode cJ2_indexOfSupplementary_4cfef 57 = .ok (.if_icmp .ne 6, 3) := by decide +kernel
theorem dJ2_indexOfSupplementary_4cfef_60 : decode cJ2_indexOfSupplementary_4cfef 60 = .ok (.iload 6, 2) := by decide +kernel
theorem dJ2_indexOfSupplementary_4cfef_62 : decode cJ2_indexOfSupplementary_4cfef 62 = .ok (.ireturn, 1) := by decide +kernel
theorem dJ2_indexOfSupplementary_4cfef_63 : decode cJ2_indexOfSupplementary_4cfef 63 = .ok (.iinc 6 1, 3) := by decide +kernel
theorem dJ2_indexOfSupplementary_4cfef_66 : decode cJ2_indexOfSupplementary_4cfef 66 = .ok (.goto (-38), 3) := by decide +kernel
theorem dJ2_indexOfSupplementary_4cfef_69 : decode cJ2_indexOfSupplementary_4cfef 69 = .ok (.iconst (-1), 1) := by decide +kernel
theorem dJ2_indexOfSupplementary_4cfef_70 : decode cJ2_indexOfSupplementary_4cfef 70 = .ok (.ireturn, 1) := by decide +kernel
theorem dJ2_checkBoundsBeginEnd_d044e_0 : decode cJ2_checkBoundsBeginEnd_d044e 0 = .ok (.iload_n 0, 1) := by decide +kernel
theorem dJ2_checkBoundsBeginEnd_d044e_1 : decode cJ2_checkBoundsBeginEnd_d044e 1 = .ok (.iload_n 1, 1) := by decide +kernel
theorem dJ2_checkBoundsBeginEnd_d044e_2 : decode cJ2_checkBoundsBeginEnd_d044e 2 = .ok (.aload_n 2, 1) := by decide +kernel
theorem dJ2_checkBoundsBeginEnd_d044e_3 : decode cJ2_checkBoundsBeginEnd_d044e 3 = .ok (.invokestatic 48, 3) := by decide +kernel
theorem dJ2_checkBoundsBeginEnd_d044e_6 : decode cJ2_checkBoundsBeginEnd_d044e 6 = .ok (.invokestatic 241, 3) := by decide +kernel
theorem dJ2_checkBoundsBeginEnd_d044e_9 : decode cJ2_checkBoundsBeginEnd_d044e 9 = .ok (.return_, 1) := by decide +kernel
theorem dJ3_checkFromToIndex_8c36e_0 : decode cJ3_checkFromToIndex_8c36e 0 = .ok (.iload_n 0, 1) := by decide +kernel
theorem dJ3_checkFromToIndex_8c36e_1 : decode cJ3_checkFromToIndex_8c36e 1 = .ok (.ifCond .lt 13, 3) := by decide +kernel
theorem dJ3_checkFromToIndex_8c36e_4 : decode cJ3_checkFromToIndex_8c36e 4 = .ok (.iload_n 0, 1) := by decide +kernel
theorem dJ3_checkFromToIndex_8c36e_5 : decode cJ3_checkFromToIndex_8c36e 5 = .ok (.iload_n 1, 1) := by decide +kernel
theorem dJ3_checkFromToIndex_8c36e_6 : decode cJ3_checkFromToIndex_8c36e 6 = .ok (.if_icmp .gt 8, 3) := by decide +kernel
theorem dJ3_checkFromToIndex_8c36e_9 : decode cJ3_checkFromToIndex_8c36e 9 = .ok (.iload_n 1, 1) := by decide +kernel
theorem dJ3_checkFromToIndex_8c36e_10 : decode cJ3_checkFromToIndex_8c36e 10 = .ok (.iload_n 2, 1) := by decide +kernel
theorem dJ3_checkFromToIndex_8c36e_11 : decode cJ3_checkFromToIndex_8c36e 11 = .ok (.if_icmp .le 11, 3) := by decide +kernel
theorem dJ3_checkFromToIndex_8c36e_14 : decode cJ3_checkFromToIndex_8c36e 14 = .ok (.aload_n 3, 1) := by decide +kernel
theorem dJ3_checkFromToIndex_8c36e_15 : decode cJ3_checkFromToIndex_8c36e 15 = .ok (.iload_n 0, 1) := by decide +kernel
theorem dJ3_checkFromToIndex_8c36e_16 : decode cJ3_checkFromToIndex_8c36e 16 = .ok (.iload_n 1, 1) := by decide +kernel
theorem dJ3_checkFromToIndex_8c36e_17 : decode cJ3_checkFromToIndex_8c36e 17 = .ok (.iload_n 2, 1) := by decide +kernel
theorem dJ3_checkFromToIndex_8c36e_18 : decode cJ3_checkFromToIndex_8c36e 18 = .ok (.invokestatic 99, 3) := by decide +kernel
theorem dJ3_checkFromToIndex_8c36e_21 : decode cJ3_checkFromToIndex_8c36e 21 = .ok (.athrow, 1) := by decide +kernel
theorem dJ3_checkFromToIndex_8c36e_22 : decode cJ3_checkFromToIndex_8c36e 22 = .ok (.iload_n 0, 1) := by decide +kernel
theorem dJ3_checkFromToIndex_8c36e_23 : decode cJ3_checkFromToIndex_8c36e 23 = .ok (.ireturn, 1) := by decide +kernel
theorem dL_law_0 : decode cL_law 0 = .ok (.new 7, 3) := by decide +kernel
theorem dL_law_3 : decode cL_law 3 = .ok (.dup, 1) := by decide +kernel
theorem dL_law_4 : decode cL_law 4 = .ok (.invokespecial 9, 3) := by decide +kernel
theorem dL_law_7 : decode cL_law 7 = .ok (.astore_n 1, 1) := by decide +kernel
theorem dL_law_8 : decode cL_law 8 = .ok (.new 10, 3) := by decide +kernel
theorem dL_law_11 : decode cL_law 11 = .ok (.dup, 1) := by decide +kernel
theorem dL_law_12 : decode cL_law 12 = .ok (.invokespecial 12, 3) := by decide +kernel
theorem dL_law_15 : decode cL_law 15 = .ok (.astore_n 2, 1) := by decide +kernel
theorem dL_law_16 : decode cL_law 16 = .ok (.iconst 0, 1) := by decide +kernel
theorem dL_law_17 : decode cL_law 17 = .ok (.istore_n 3, 1) := by decide +kernel
theorem dL_law_18 : decode cL_law 18 = .ok (.iload_n 3, 1) := by decide +kernel
theorem dL_law_19 : decode cL_law 19 = .ok (.aload_n 0, 1) := by decide +kernel
theorem dL_law_20 : decode cL_law 20 = .ok (.arraylength, 1) := by decide +kernel
theorem dL_law_21 : decode cL_law 21 = .ok (.iconst 5, 1) := by decide +kernel
theorem dL_law_22 : decode cL_law 22 = .ok (.isub, 1) := by decide +kernel
theorem dL_law_23 : decode cL_law 23 = .ok (.if_icmp .gt 876, 3) := by decide +kernel
theorem dL_law_26 : decode cL_law 26 = .ok (.aload_n 0, 1) := by decide +kernel
theorem dL_law_27 : decode cL_law 27 = .ok (.iload_n 3, 1) := by decide +kernel
theorem dL_law_28 : decode cL_law 28 = .ok (.iaload, 1) := by decide +kernel
theorem dL_law_29 : decode cL_law 29 = .ok (.bipush 31, 2) := by decide +kernel
theorem dL_law_31 : decode cL_law 31 = .ok (.iand, 1) := by decide +kernel
theorem dL_law_32 : decode cL_law 32 = .ok (.tableswitch 861 0 26 #[124, 187, 200, 213, 226, 259, 292, 335, 378, 401, 414, 447, 480, 513, 566, 589, 622, 645, 668, 701, 714, 727, 766, 779, 792, 815, 838], 124) := by decide +kernel
theorem dL_law_156 : decode cL_law 156 = .ok (.aload_n 1, 1) := by decide +kernel
theorem dL_law_157 : decode cL_law 157 = .ok (.aload_n 0, 1) := by decide +kernel
theorem dL_law_158 : decode cL_law 158 = .ok (.iload_n 3, 1) := by decide +kernel
theorem dL_law_159 : decode cL_law 159 = .ok (.iconst 1, 1) := by decide +kernel
theorem dL_law_160 : decode cL_law 160 = .ok (.iadd, 1) := by decide +kernel
theorem dL_law_161 : decode cL_law 161 = .ok (.iaload, 1) := by decide +kernel
theorem dL_law_162 : decode cL_law 162 = .ok (.aload_n 0, 1) := by decide +kernel
theorem dL_law_163 : decode cL_law 163 = .ok (.iload_n 3, 1) := by decide +kernel
theorem dL_law_164 : decode cL_law 164 = .ok (.iconst 2, 1) := by decide +kernel
theorem dL_law_165 : decode cL_law 165 = .ok (.iadd, 1) := by decide +kernel
theorem dL_law_166 : decode cL_law 166 = .ok (.iaload, 1) := by decide +kernel
theorem dL_law_167 : decode cL_law 167 = .ok (.i2l, 1) := by decide +kernel
theorem dL_law_168 : decode cL_law 168 = .ok (.bipush 32, 2) := by decide +kernel
theorem dL_law_170 : decode cL_law 170 = .ok (.lshl, 1) := by decide +kernel
theorem dL_law_171 : decode cL_law 171 = .ok (.aload_n 0, 1) := by decide +kernel
theorem dL_law_172 : decode cL_law 172 = .ok (.iload_n 3, 1) := by decide +kernel
theorem dL_law_173 : decode cL_law 173 = .ok (.iconst 3, 1) := by decide +kernel
theorem dL_law_174 : decode cL_law 174 = .ok (.iadd, 1) := by decide +kernel
theorem dL_law_175 : decode cL_law 175 = .ok (.iaload, 1) := by decide +kernel
theorem dL_law_176 : decode cL_law 176 = .ok (.i2l, 1) := by decide +kernel
theorem dL_law_177 : decode cL_law 177 = .ok (.ldc2_w 13, 3) := by decide +kernel
theorem dL_law_180 : decode cL_law 180 = .ok (.land, 1) := by decide +kernel
theorem dL_law_181 : decode cL_law 181 = .ok (.lor, 1) := by decide +kernel
theorem dL_law_182 : decode cL_law 182 = .ok (.invokevirtual 15, 3) := by decide +kernel
theorem dL_law_185 : decode cL_law 185 = .ok (.aload_n 2, 1) := by decide +kernel
theorem dL_law_186 : decode cL_law 186 = .ok (.aload_n 0, 1) := by decide +kernel
theorem dL_law_187 : decode cL_law 187 = .ok (.iload_n 3, 1) := by decide +kernel
theorem dL_law_188 : decode cL_law 188 = .ok (.iconst 1, 1) := by decide +kernel
theorem dL_law_189 : decode cL_law 189 = .ok (.iadd, 1) := by decide +kernel
theorem dL_law_190 : decode cL_law 190 = .ok (.iaload, 1) := by decide +kernel
theorem dL_law_191 : decode cL_law 191 = .ok (.aload_n 0, 1) := by decide +kernel
theorem dL_law_192 : decode cL_law 192 = .ok (.iload_n 3, 1) := by decide +kernel
theorem dL_law_193 : decode cL_law 193 = .ok (.iconst 2, 1) := by decide +kernel
theorem dL_law_194 : decode cL_law 194 = .ok (.iadd, 1) := by decide +kernel
theorem dL_law_195 : decode cL_law 195 = .ok (.iaload, 1) := by decide +kernel
theorem dL_law_196 : decode cL_law 196 = .ok (.i2l, 1) := by decide +kernel
theorem dL_law_197 : decode cL_law 197 = .ok (.bipush 32, 2) := by decide +kernel
theorem dL_law_199 : decode cL_law 199 = .ok (.lshl, 1) := by decide +kernel
theorem dL_law_200 : decode cL_law 200 = .ok (.aload_n 0, 1) := by decide +kernel
theorem dL_law_201 : decode cL_law 201 = .ok (.iload_n 3, 1) := by decide +kernel
theorem dL_law_202 : decode cL_law 202 = .ok (.iconst 3, 1) := by decide +kernel
theorem dL_law_203 : decode cL_law 203 = .ok (.iadd, 1) := by decide +kernel
theorem dL_law_204 : decode cL_law 204 = .ok (.iaload, 1) := by decide +kernel
theorem dL_law_205 : decode cL_law 205 = .ok (.i2l, 1) := by decide +kernel
theorem dL_law_206 : decode cL_law 206 = .ok (.ldc2_w 13, 3) := by decide +kernel
theorem dL_law_209 : decode cL_law 209 = .ok (.land, 1) := by decide +kernel
theorem dL_law_210 : decode cL_law 210 = .ok (.lor, 1) := by decide +kernel
theorem dL_law_211 : decode cL_law 211 = .ok (.invokevirtual 19, 3) := by decide +kernel
theorem dL_law_214 : decode cL_law 214 = .ok (.if_icmp .eq 679, 3) := by decide +kernel
theorem dL_law_217 : decode cL_law 217 = .ok (.iconst 0, 1) := by decide +kernel
theorem dL_law_218 : decode cL_law 218 = .ok (.ireturn, 1) := by decide +kernel
theorem dL_law_219 : decode cL_law 219 = .ok (.aload_n 1, 1) := by decide +kernel
theorem dL_law_220 : decode cL_law 220 = .ok (.invokevirtual 20, 3) := by decide +kernel
theorem dL_law_223 : decode cL_law 223 = .ok (.aload_n 2, 1) := by decide +kernel
theorem dL_law_224 : decode cL_law 224 = .ok (.invokevirtual 24, 3) := by decide +kernel
theorem dL_law_227 : decode cL_law 227 = .ok (.if_icmp .eq 666, 3) := by decide +kernel
theorem dL_law_230 : decode cL_law 230 = .ok (.iconst 0, 1) := by decide +kernel
theorem dL_law_231 : decode cL_law 231 = .ok (.ireturn, 1) := by decide +kernel
theorem dL_law_232 : decode cL_law 232 = .ok (.aload_n 1, 1) := by decide +kernel
theorem dL_law_233 : decode cL_law 233 = .ok (.invokevirtual 25, 3) := by decide +kernel
theorem dL_law_236 : decode cL_law 236 = .ok (.aload_n 2, 1) := by decide +kernel
theorem dL_law_237 : decode cL_law 237 = .ok (.invokevirtual 28, 3) := by decide +kernel
theorem dL_law_240 : decode cL_law 240 = .ok (.if_icmp .eq 653, 3) := by decide +kernel
theorem dL_law_243 : decode cL_law 243 = .ok (.iconst 0, 1) := by decide +kernel
theorem dL_law_244 : decode cL_law 244 = .ok (.ireturn, 1) := by decide +kernel
theorem dL_law_245 : decode cL_law 245 = .ok (.aload_n 1, 1) := by decide +kernel
theorem dL_law_246 : decode cL_law 246 = .ok (.invokevirtual 29, 3) := by decide +kernel
theorem dL_law_249 : decode cL_law 249 = .ok (.aload_n 2, 1) := by decide +kernel
theorem dL_law_250 : decode cL_law 250 = .ok (.invokevirtual 32, 3) := by decide +kernel
theorem dL_law_253 : decode cL_law 253 = .ok (.if_icmp .eq 640, 3) := by decide +kernel
theorem dL_law_256 : decode cL_law 256 = .ok (.iconst 0, 1) := by decide +kernel
theorem dL_law_257 : decode cL_law 257 = .ok (.ireturn, 1) := by decide +kernel
theorem dL_law_258 : decode cL_law 258 = .ok (.aload_n 1, 1) := by decide +kernel
theorem dL_law_259 : decode cL_law 259 = .ok (.aload_n 0, 1) := by decide +kernel
theorem dL_law_260 : decode cL_law 260 = .ok (.iload_n 3, 1) := by decide +kernel
theorem dL_law_261 : decode cL_law 261 = .ok (.iconst 1, 1) := by decide +kernel
theorem dL_law_262 : decode cL_law 262 = .ok (.iadd, 1) := by decide +kernel
theorem dL_law_263 : decode cL_law 263 = .ok (.iaload, 1) := by decide +kernel
theorem dL_law_264 : decode cL_law 264 = .ok (.aload_n 0, 1) := by decide +kernel
theorem dL_law_265 : decode cL_law 265 = .ok (.iload_n 3, 1) := by decide +kernel
theorem dL_law_266 : decode cL_law 266 = .ok (.iconst 2, 1) := by decide +kernel
theorem dL_law_267 : decode cL_law 267 = .ok (.iadd, 1) := by decide +kernel
theorem dL_law_268 : decode cL_law 268 = .ok (.iaload, 1) := by decide +kernel
theorem dL_law_269 : decode cL_law 269 = .ok (.invokevirtual 33, 3) := by decide +kernel
theorem dL_law_272 : decode cL_law 272 = .ok (.aload_n 2, 1) := by decide +kernel
theorem dL_law_273 : decode cL_law 273 = .ok (.aload_n 0, 1) := by decide +kernel
theorem dL_law_274 : decode cL_law 274 = .ok (.iload_n 3, 1) := by decide +kernel
theorem dL_law_275 : decode cL_law 275 = .ok (.iconst 1, 1) := by decide +kernel
theorem dL_law_276 : decode cL_law 276 = .ok (.iadd, 1) := by decide +kernel
theorem dL_law_277 : decode cL_law 277 = .ok (.iaload, 1) := by decide +kernel
theorem dL_law_278 : decode cL_law 278 = .ok (.aload_n 0, 1) := by decide +kernel
theorem dL_law_279 : decode cL_law 279 = .ok (.iload_n 3, 1) := by decide +kernel
theorem dL_law_280 : decode cL_law 280 = .ok (.iconst 2, 1) := by decide +kernel
theorem dL_law_281 : decode cL_law 281 = .ok (.iadd, 1) := by decide +kernel
theorem dL_law_282 : decode cL_law 282 = .ok (.iaload, 1) := by decide +kernel
theorem dL_law_283 : decode cL_law 283 = .ok (.invokevirtual 37, 3) := by decide +kernel
theorem dL_law_286 : decode cL_law 286 = .ok (.if_icmp .eq 607, 3) := by decide +kernel
theorem dL_law_289 : decode cL_law 289 = .ok (.iconst 0, 1) := by decide +kernel
theorem dL_law_290 : decode cL_law 290 = .ok (.ireturn, 1) := by decide +kernel
theorem dL_law_291 : decode cL_law 291 = .ok (.aload_n 1, 1) := by decide +kernel
theorem dL_law_292 : decode cL_law 292 = .ok (.aload_n 0, 1) := by decide +kernel
theorem dL_law_293 : decode cL_law 293 = .ok (.iload_n 3, 1) := by decide +kernel
theorem dL_law_294 : decode cL_law 294 = .ok (.iconst 1, 1) := by decide +kernel
theorem dL_law_295 : decode cL_law 295 = .ok (.iadd, 1) := by decide +kernel
theorem dL_law_296 : decode cL_law 296 = .ok (.iaload, 1) := by decide +kernel
theorem dL_law_297 : decode cL_law 297 = .ok (.aload_n 0, 1) := by decide +kernel
theorem dL_law_298 : decode cL_law 298 = .ok (.iload_n 3, 1) := by decide +kernel
theorem dL_law_299 : decode cL_law 299 = .ok (.iconst 2, 1) := by decide +kernel
theorem dL_law_300 : decode cL_law 300 = .ok (.iadd, 1) := by decide +kernel
theorem dL_law_301 : decode cL_law 301 = .ok (.iaload, 1) := by decide +kernel
theorem dL_law_302 : decode cL_law 302 = .ok (.invokevirtual 38, 3) := by decide +kernel
theorem dL_law_305 : decode cL_law 305 = .ok (.aload_n 2, 1) := by decide +kernel
theorem dL_law_306 : decode cL_law 306 = .ok (.aload_n 0, 1) := by decide +kernel
theorem dL_law_307 : decode cL_law 307 = .ok (.iload_n 3, 1) := by decide +kernel
theorem dL_law_308 : decode cL_law 308 = .ok (.iconst 1, 1) := by decide +kernel
theorem dL_law_309 : decode cL_law 309 = .ok (.iadd, 1) := by decide +kernel
theorem dL_law_310 : decode cL_law 310 = .ok (.iaload, 1) := by decide +kernel
theorem dL_law_311 : decode cL_law 311 = .ok (.aload_n 0, 1) := by decide +kernel
theorem dL_law_312 : decode cL_law 312 = .ok (.iload_n 3, 1) := by decide +kernel
theorem dL_law_313 : decode cL_law 313 = .ok (.iconst 2, 1) := by decide +kernel
theorem dL_law_314 : decode cL_law 314 = .ok (.iadd, 1) := by decide +kernel
theorem dL_law_315 : decode cL_law 315 = .ok (.iaload, 1) := by decide +kernel
theorem dL_law_316 : decode cL_law 316 = .ok (.invokevirtual 41, 3) := by decide +kernel
theorem dL_law_319 : decode cL_law 319 = .ok (.if_icmp .eq 574, 3) := by decide +kernel
theorem dL_law_322 : decode cL_law 322 = .ok (.iconst 0, 1) := by decide +kernel
theorem dL_law_323 : decode cL_law 323 = .ok (.ireturn, 1) := by decide +kernel
theorem dL_law_324 : decode cL_law 324 = .ok (.aload_n 1, 1) := by decide +kernel
theorem dL_law_325 : decode cL_law 325 = .ok (.aload_n 0, 1) := by decide +kernel
theorem dL_law_326 : decode cL_law 326 = .ok (.iload_n 3, 1) := by decide +kernel
theorem dL_law_327 : decode cL_law 327 = .ok (.iconst 1, 1) := by decide +kernel
theorem dL_law_328 : decode cL_law 328 = .ok (.iadd, 1) := by decide +kernel
theorem dL_law_329 : decode cL_law 329 = .ok (.iaload, 1) := by decide +kernel
theorem dL_law_330 : decode cL_law 330 = .ok (.aload_n 0, 1) := by decide +kernel
theorem dL_law_331 : decode cL_law 331 = .ok (.iload_n 3, 1) := by decide +kernel
theorem dL_law_332 : decode cL_law 332 = .ok (.iconst 2, 1) := by decide +kernel
theorem dL_law_333 : decode cL_law 333 = .ok (.iadd, 1) := by decide +kernel
theorem dL_law_334 : decode cL_law 334 = .ok (.iaload, 1) := by decide +kernel
theorem dL_law_335 : decode cL_law 335 = .ok (.aload_n 0, 1) := by decide +kernel
theorem dL_law_336 : decode cL_law 336 = .ok (.iload_n 3, 1) := by decide +kernel
theorem dL_law_337 : decode cL_law 337 = .ok (.iconst 3, 1) := by decide +kernel
theorem dL_law_338 : decode cL_law 338 = .ok (.iadd, 1) := by decide +kernel
theorem dL_law_339 : decode cL_law 339 = .ok (.iaload, 1) := by decide +kernel
theorem dL_law_340 : decode cL_law 340 = .ok (.invokevirtual 42, 3) := by decide +kernel
theorem dL_law_343 : decode cL_law 343 = .ok (.aload_n 2, 1) := by decide +kernel
theorem dL_law_344 : decode cL_law 344 = .ok (.aload_n 0, 1) := by decide +kernel
theorem dL_law_345 : decode cL_law 345 = .ok (.iload_n 3, 1) := by decide +kernel
theorem dL_law_346 : decode cL_law 346 = .ok (.iconst 1, 1) := by decide +kernel
theorem dL_law_347 : decode cL_law 347 = .ok (.iadd, 1) := by decide +kernel
theorem dL_law_348 : decode cL_law 348 = .ok (.iaload, 1) := by decide +kernel
theorem dL_law_349 : decode cL_law 349 = .ok (.aload_n 0, 1) := by decide +kernel
theorem dL_law_350 : decode cL_law 350 = .ok (.iload_n 3, 1) := by decide +kernel
theorem dL_law_351 : decode cL_law 351 = .ok (.iconst 2, 1) := by decide +kernel
theorem dL_law_352 : decode cL_law 352 = .ok (.iadd, 1) := by decide +kernel
theorem dL_law_353 : decode cL_law 353 = .ok (.iaload, 1) := by decide +kernel
theorem dL_law_354 : decode cL_law 354 = .ok (.aload_n 0, 1) := by decide +kernel
theorem dL_law_355 : decode cL_law 355 = .ok (.iload_n 3, 1) := by decide +kernel
theorem dL_law_356 : decode cL_law 356 = .ok (.iconst 3, 1) := by decide +kernel
theorem dL_law_357 : decode cL_law 357 = .ok (.iadd, 1) := by decide +kernel
theorem dL_law_358 : decode cL_law 358 = .ok (.iaload, 1) := by decide +kernel
theorem dL_law_359 : decode cL_law 359 = .ok (.invokevirtual 46, 3) := by decide +kernel
theorem dL_law_362 : decode cL_law 362 = .ok (.if_icmp .eq 531, 3) := by decide +kernel
theorem dL_law_365 : decode cL_law 365 = .ok (.iconst 0, 1) := by decide +kernel
theorem dL_law_366 : decode cL_law 366 = .ok (.ireturn, 1) := by decide +kernel
theorem dL_law_367 : decode cL_law 367 = .ok (.aload_n 1, 1) := by decide +kernel
theorem dL_law_368 : decode cL_law 368 = .ok (.aload_n 0, 1) := by decide +kernel
theorem dL_law_369 : decode cL_law 369 = .ok (.iload_n 3, 1) := by decide +kernel
theorem dL_law_370 : decode cL_law 370 = .ok (.iconst 1, 1) := by decide +kernel
theorem dL_law_371 : decode cL_law 371 = .ok (.iadd, 1) := by decide +kernel
theorem dL_law_372 : decode cL_law 372 = .ok (.iaload, 1) := by decide +kernel
theorem dL_law_373 : decode cL_law 373 = .ok (.aload_n 0, 1) := by decide +kernel
theorem dL_law_374 : decode cL_law 374 = .ok (.iload_n 3, 1) := by decide +kernel
theorem dL_law_375 : decode cL_law 375 = .ok (.iconst 2, 1) := by decide +kernel
theorem dL_law_376 : decode cL_law 376 = .ok (.iadd, 1) := by decide +kernel
theorem dL_law_377 : decode cL_law 377 = .ok (.iaload, 1) := by decide +kernel
theorem dL_law_378 : decode cL_law 378 = .ok (.aload_n 0, 1) := by decide +kernel
theorem dL_law_379 : decode cL_law 379 = .ok (.iload_n 3, 1) := by decide +kernel
theorem dL_law_380 : decode cL_law 380 = .ok (.iconst 3, 1) := by decide +kernel
theorem dL_law_381 : decode cL_law 381 = .ok (.iadd, 1) := by decide +kernel
theorem dL_law_382 : decode cL_law 382 = .ok (.iaload, 1) := by decide +kernel
theorem dL_law_383 : decode cL_law 383 = .ok (.invokevirtual 47, 3) := by decide +kernel
theorem dL_law_386 : decode cL_law 386 = .ok (.aload_n 2, 1) := by decide +kernel
theorem dL_law_387 : decode cL_law 387 = .ok (.aload_n 0, 1) := by decide +kernel
theorem dL_law_388 : decode cL_law 388 = .ok (.iload_n 3, 1) := by decide +kernel
theorem dL_law_389 : decode cL_law 389 = .ok (.iconst 1, 1) := by decide +kernel
theorem dL_law_390 : decode cL_law 390 = .ok (.iadd, 1) := by decide +kernel
theorem dL_law_391 : decode cL_law 391 = .ok (.iaload, 1) := by decide +kernel
theorem dL_law_392 : decode cL_law 392 = .ok (.aload_n 0, 1) := by decide +kernel
theorem dL_law_393 : decode cL_law 393 = .ok (.iload_n 3, 1) := by decide +kernel
theorem dL_law_394 : decode cL_law 394 = .ok (.iconst 2, 1) := by decide +kernel
theorem dL_law_395 : decode cL_law 395 = .ok (.iadd, 1) := by decide +kernel
theorem dL_law_396 : decode cL_law 396 = .ok (.iaload, 1) := by decide +kernel
theorem dL_law_397 : decode cL_law 397 = .ok (.aload_n 0, 1) := by decide +kernel
theorem dL_law_398 : decode cL_law 398 = .ok (.iload_n 3, 1) := by decide +kernel
theorem dL_law_399 : decode cL_law 399 = .ok (.iconst 3, 1) := by decide +kernel
theorem dL_law_400 : decode cL_law 400 = .ok (.iadd, 1) := by decide +kernel
theorem dL_law_401 : decode cL_law 401 = .ok (.iaload, 1) := by decide +kernel
theorem dL_law_402 : decode cL_law 402 = .ok (.invokevirtual 50, 3) := by decide +kernel
theorem dL_law_405 : decode cL_law 405 = .ok (.if_icmp .eq 488, 3) := by decide +kernel
theorem dL_law_408 : decode cL_law 408 = .ok (.iconst 0, 1) := by decide +kernel
theorem dL_law_409 : decode cL_law 409 = .ok (.ireturn, 1) := by decide +kernel
theorem dL_law_410 : decode cL_law 410 = .ok (.aload_n 1, 1) := by decide +kernel
theorem dL_law_411 : decode cL_law 411 = .ok (.aload_n 0, 1) := by decide +kernel
theorem dL_law_412 : decode cL_law 412 = .ok (.iload_n 3, 1) := by decide +kernel
theorem dL_law_413 : decode cL_law 413 = .ok (.iconst 1, 1) := by decide +kernel
theorem dL_law_414 : decode cL_law 414 = .ok (.iadd, 1) := by decide +kernel
theorem dL_law_415 : decode cL_law 415 = .ok (.iaload, 1) := by decide +kernel
theorem dL_law_416 : decode cL_law 416 = .ok (.invokevirtual 51, 3) := by decide +kernel
theorem dL_law_419 : decode cL_law 419 = .ok (.aload_n 2, 1) := by decide +kernel
theorem dL_law_420 : decode cL_law 420 = .ok (.aload_n 0, 1) := by decide +kernel
theorem dL_law_421 : decode cL_law 421 = .ok (.iload_n 3, 1) := by decide +kernel
theorem dL_law_422 : decode cL_law 422 = .ok (.iconst 1, 1) := by decide +kernel
theorem dL_law_423 : decode cL_law 423 = .ok (.iadd, 1) := by decide +kernel
theorem dL_law_424 : decode cL_law 424 = .ok (.iaload, 1) := by decide +kernel
theorem dL_law_425 : decode cL_law 425 = .ok (.invokevirtual 55, 3) := by decide +kernel
theorem dL_law_428 : decode cL_law 428 = .ok (.if_icmp .eq 465, 3) := by decide +kernel
theorem dL_law_431 : decode cL_law 431 = .ok (.iconst 0, 1) := by decide +kernel
theorem dL_law_432 : decode cL_law 432 = .ok (.ireturn, 1) := by decide +kernel
theorem dL_law_433 : decode cL_law 433 = .ok (.aload_n 1, 1) := by decide +kernel
theorem dL_law_434 : decode cL_law 434 = .ok (.invokevirtual 56, 3) := by decide +kernel
theorem dL_law_437 : decode cL_law 437 = .ok (.aload_n 2, 1) := by decide +kernel
theorem dL_law_438 : decode cL_law 438 = .ok (.invokevirtual 59, 3) := by decide +kernel
theorem dL_law_441 : decode cL_law 441 = .ok (.if_icmp .eq 452, 3) := by decide +kernel
theorem dL_law_444 : decode cL_law 444 = .ok (.iconst 0, 1) := by decide +kernel
theorem dL_law_445 : decode cL_law 445 = .ok (.ireturn, 1) := by decide +kernel
theorem dL_law_446 : decode cL_law 446 = .ok (.aload_n 1, 1) := by decide +kernel
theorem dL_law_447 : decode cL_law 447 = .ok (.aload_n 0, 1) := by decide +kernel
theorem dL_law_448 : decode cL_law 448 = .ok (.iload_n 3, 1) := by decide +kernel
theorem dL_law_449 : decode cL_law 449 = .ok (.iconst 1, 1) := by decide +kernel
theorem dL_law_450 : decode cL_law 450 = .ok (.iadd, 1) := by decide +kernel
theorem dL_law_451 : decode cL_law 451 = .ok (.iaload, 1) := by decide +kernel
theorem dL_law_452 : decode cL_law 452 = .ok (.aload_n 0, 1) := by decide +kernel
theorem dL_law_453 : decode cL_law 453 = .ok (.iload_n 3, 1) := by decide +kernel
theorem dL_law_454 : decode cL_law 454 = .ok (.iconst 2, 1) := by decide +kernel
theorem dL_law_455 : decode cL_law 455 = .ok (.iadd, 1) := by decide +kernel
theorem dL_law_456 : decode cL_law 456 = .ok (.iaload, 1) := by decide +kernel
theorem dL_law_457 : decode cL_law 457 = .ok (.invokevirtual 60, 3) := by decide +kernel
theorem dL_law_460 : decode cL_law 460 = .ok (.aload_n 2, 1) := by decide +kernel
theorem dL_law_461 : decode cL_law 461 = .ok (.aload_n 0, 1) := by decide +kernel
theorem dL_law_462 : decode cL_law 462 = .ok (.iload_n 3, 1) := by decide +kernel
theorem dL_law_463 : decode cL_law 463 = .ok (.iconst 1, 1) := by decide +kernel
theorem dL_law_464 : decode cL_law 464 = .ok (.iadd, 1) := by decide +kernel
theorem dL_law_465 : decode cL_law 465 = .ok (.iaload, 1) := by decide +kernel
theorem dL_law_466 : decode cL_law 466 = .ok (.aload_n 0, 1) := by decide +kernel
theorem dL_law_467 : decode cL_law 467 = .ok (.iload_n 3, 1) := by decide +kernel
theorem dL_law_468 : decode cL_law 468 = .ok (.iconst 2, 1) := by decide +kernel
theorem dL_law_469 : decode cL_law 469 = .ok (.iadd, 1) := by decide +kernel
theorem dL_law_470 : decode cL_law 470 = .ok (.iaload, 1) := by decide +kernel
theorem dL_law_471 : decode cL_law 471 = .ok (.invokevirtual 63, 3) := by decide +kernel
theorem dL_law_474 : decode cL_law 474 = .ok (.if_icmp .eq 419, 3) := by decide +kernel
theorem dL_law_477 : decode cL_law 477 = .ok (.iconst 0, 1) := by decide +kernel
theorem dL_law_478 : decode cL_law 478 = .ok (.ireturn, 1) := by decide +kernel
theorem dL_law_479 : decode cL_law 479 = .ok (.aload_n 1, 1) := by decide +kernel
theorem dL_law_480 : decode cL_law 480 = .ok (.aload_n 0, 1) := by decide +kernel
theorem dL_law_481 : decode cL_law 481 = .ok (.iload_n 3, 1) := by decide +kernel
theorem dL_law_482 : decode cL_law 482 = .ok (.iconst 1, 1) := by decide +kernel
theorem dL_law_483 : decode cL_law 483 = .ok (.iadd, 1) := by decide +kernel
theorem dL_law_484 : decode cL_law 484 = .ok (.iaload, 1) := by decide +kernel
theorem dL_law_485 : decode cL_law 485 = .ok (.aload_n 0, 1) := by decide +kernel
theorem dL_law_486 : decode cL_law 486 = .ok (.iload_n 3, 1) := by decide +kernel
theorem dL_law_487 : decode cL_law 487 = .ok (.iconst 2, 1) := by decide +kernel
theorem dL_law_488 : decode cL_law 488 = .ok (.iadd, 1) := by decide +kernel
theorem dL_law_489 : decode cL_law 489 = .ok (.iaload, 1) := by decide +kernel
theorem dL_law_490 : decode cL_law 490 = .ok (.invokevirtual 64, 3) := by decide +kernel
theorem dL_law_493 : decode cL_law 493 = .ok (.aload_n 2, 1) := by decide +kernel
theorem dL_law_494 : decode cL_law 494 = .ok (.aload_n 0, 1) := by decide +kernel
theorem dL_law_495 : decode cL_law 495 = .ok (.iload_n 3, 1) := by decide +kernel
theorem dL_law_496 : decode cL_law 496 = .ok (.iconst 1, 1) := by decide +kernel
theorem dL_law_497 : decode cL_law 497 = .ok (.iadd, 1) := by decide +kernel
theorem dL_law_498 : decode cL_law 498 = .ok (.iaload, 1) := by decide +kernel
theorem dL_law_499 : decode cL_law 499 = .ok (.aload_n 0, 1) := by decide +kernel
theorem dL_law_500 : decode cL_law 500 = .ok (.iload_n 3, 1) := by decide +kernel
theorem dL_law_501 : decode cL_law 501 = .ok (.iconst 2, 1) := by decide +kernel
theorem dL_law_502 : decode cL_law 502 = .ok (.iadd, 1) := by decide +kernel
theorem dL_law_503 : decode cL_law 503 = .ok (.iaload, 1) := by decide +kernel
theorem dL_law_504 : decode cL_law 504 = .ok (.invokevirtual 67, 3) := by decide +kernel
theorem dL_law_507 : decode cL_law 507 = .ok (.if_icmp .eq 386, 3) := by decide +kernel
theorem dL_law_510 : decode cL_law 510 = .ok (.iconst 0, 1) := by decide +kernel
theorem dL_law_511 : decode cL_law 511 = .ok (.ireturn, 1) := by decide +kernel
theorem dL_law_512 : decode cL_law 512 = .ok (.aload_n 1, 1) := by decide +kernel
theorem dL_law_513 : decode cL_law 513 = .ok (.aload_n 0, 1) := by decide +kernel
theorem dL_law_514 : decode cL_law 514 = .ok (.iload_n 3, 1) := by decide +kernel
theorem dL_law_515 : decode cL_law 515 = .ok (.iconst 1, 1) := by decide +kernel
theorem dL_law_516 : decode cL_law 516 = .ok (.iadd, 1) := by decide +kernel
theorem dL_law_517 : decode cL_law 517 = .ok (.iaload, 1) := by decide +kernel
theorem dL_law_518 : decode cL_law 518 = .ok (.aload_n 0, 1) := by decide +kernel
theorem dL_law_519 : decode cL_law 519 = .ok (.iload_n 3, 1) := by decide +kernel
theorem dL_law_520 : decode cL_law 520 = .ok (.iconst 2, 1) := by decide +kernel
theorem dL_law_521 : decode cL_law 521 = .ok (.iadd, 1) := by decide +kernel
theorem dL_law_522 : decode cL_law 522 = .ok (.iaload, 1) := by decide +kernel
theorem dL_law_523 : decode cL_law 523 = .ok (.invokevirtual 68, 3) := by decide +kernel
theorem dL_law_526 : decode cL_law 526 = .ok (.aload_n 2, 1) := by decide +kernel
theorem dL_law_527 : decode cL_law 527 = .ok (.aload_n 0, 1) := by decide +kernel
theorem dL_law_528 : decode cL_law 528 = .ok (.iload_n 3, 1) := by decide +kernel
theorem dL_law_529 : decode cL_law 529 = .ok (.iconst 1, 1) := by decide +kernel
theorem dL_law_530 : decode cL_law 530 = .ok (.iadd, 1) := by decide +kernel
theorem dL_law_531 : decode cL_law 531 = .ok (.iaload, 1) := by decide +kernel
theorem dL_law_532 : decode cL_law 532 = .ok (.aload_n 0, 1) := by decide +kernel
theorem dL_law_533 : decode cL_law 533 = .ok (.iload_n 3, 1) := by decide +kernel
theorem dL_law_534 : decode cL_law 534 = .ok (.iconst 2, 1) := by decide +kernel
theorem dL_law_535 : decode cL_law 535 = .ok (.iadd, 1) := by decide +kernel
theorem dL_law_536 : decode cL_law 536 = .ok (.iaload, 1) := by decide +kernel
theorem dL_law_537 : decode cL_law 537 = .ok (.invokevirtual 71, 3) := by decide +kernel
theorem dL_law_540 : decode cL_law 540 = .ok (.if_icmp .eq 353, 3) := by decide +kernel
theorem dL_law_543 : decode cL_law 543 = .ok (.iconst 0, 1) := by decide +kernel
theorem dL_law_544 : decode cL_law 544 = .ok (.ireturn, 1) := by decide +kernel
theorem dL_law_545 : decode cL_law 545 = .ok (.aload_n 1, 1) := by decide +kernel
theorem dL_law_546 : decode cL_law 546 = .ok (.aload_n 0, 1) := by decide +kernel
theorem dL_law_547 : decode cL_law 547 = .ok (.iload_n 3, 1) := by decide +kernel
theorem dL_law_548 : decode cL_law 548 = .ok (.iconst 1, 1) := by decide +kernel
theorem dL_law_549 : decode cL_law 549 = .ok (.iadd, 1) := by decide +kernel
theorem dL_law_550 : decode cL_law 550 = .ok (.iaload, 1) := by decide +kernel
theorem dL_law_551 : decode cL_law 551 = .ok (.aload_n 0, 1) := by decide +kernel
theorem dL_law_552 : decode cL_law 552 = .ok (.iload_n 3, 1) := by decide +kernel
theorem dL_law_553 : decode cL_law 553 = .ok (.iconst 2, 1) := by decide +kernel
theorem dL_law_554 : decode cL_law 554 = .ok (.iadd, 1) := by decide +kernel
theorem dL_law_555 : decode cL_law 555 = .ok (.iaload, 1) := by decide +kernel
theorem dL_law_556 : decode cL_law 556 = .ok (.aload_n 0, 1) := by decide +kernel
theorem dL_law_557 : decode cL_law 557 = .ok (.iload_n 3, 1) := by decide +kernel
theorem dL_law_558 : decode cL_law 558 = .ok (.iconst 3, 1) := by decide +kernel
theorem dL_law_559 : decode cL_law 559 = .ok (.iadd, 1) := by decide +kernel
theorem dL_law_560 : decode cL_law 560 = .ok (.iaload, 1) := by decide +kernel
theorem dL_law_561 : decode cL_law 561 = .ok (.aload_n 0, 1) := by decide +kernel
theorem dL_law_562 : decode cL_law 562 = .ok (.iload_n 3, 1) := by decide +kernel
theorem dL_law_563 : decode cL_law 563 = .ok (.iconst 4, 1) := by decide +kernel
theorem dL_law_564 : decode cL_law 564 = .ok (.iadd, 1) := by decide +kernel
theorem dL_law_565 : decode cL_law 565 = .ok (.iaload, 1) := by decide +kernel
theorem dL_law_566 : decode cL_law 566 = .ok (.invokevirtual 72, 3) := by decide +kernel
theorem dL_law_569 : decode cL_law 569 = .ok (.aload_n 2, 1) := by decide +kernel
theorem dL_law_570 : decode cL_law 570 = .ok (.aload_n 0, 1) := by decide +kernel
theorem dL_law_571 : decode cL_law 571 = .ok (.iload_n 3, 1) := by decide +kernel
theorem dL_law_572 : decode cL_law 572 = .ok (.iconst 1, 1) := by decide +kernel
theorem dL_law_573 : decode cL_law 573 = .ok (.iadd, 1) := by decide +kernel
theorem dL_law_574 : decode cL_law 574 = .ok (.iaload, 1) := by decide +kernel
theorem dL_law_575 : decode cL_law 575 = .ok (.aload_n 0, 1) := by decide +kernel
theorem dL_law_576 : decode cL_law 576 = .ok (.iload_n 3, 1) := by decide +kernel
theorem dL_law_577 : decode cL_law 577 = .ok (.iconst 2, 1) := by decide +kernel
theorem dL_law_578 : decode cL_law 578 = .ok (.iadd, 1) := by decide +kernel
theorem dL_law_579 : decode cL_law 579 = .ok (.iaload, 1) := by decide +kernel
theorem dL_law_580 : decode cL_law 580 = .ok (.aload_n 0, 1) := by decide +kernel
theorem dL_law_581 : decode cL_law 581 = .ok (.iload_n 3, 1) := by decide +kernel
theorem dL_law_582 : decode cL_law 582 = .ok (.iconst 3, 1) := by decide +kernel
theorem dL_law_583 : decode cL_law 583 = .ok (.iadd, 1) := by decide +kernel
theorem dL_law_584 : decode cL_law 584 = .ok (.iaload, 1) := by decide +kernel
theorem dL_law_585 : decode cL_law 585 = .ok (.aload_n 0, 1) := by decide +kernel
theorem dL_law_586 : decode cL_law 586 = .ok (.iload_n 3, 1) := by decide +kernel
theorem dL_law_587 : decode cL_law 587 = .ok (.iconst 4, 1) := by decide +kernel
theorem dL_law_588 : decode cL_law 588 = .ok (.iadd, 1) := by decide +kernel
theorem dL_law_589 : decode cL_law 589 = .ok (.iaload, 1) := by decide +kernel
theorem dL_law_590 : decode cL_law 590 = .ok (.invokevirtual 76, 3) := by decide +kernel
theorem dL_law_593 : decode cL_law 593 = .ok (.if_icmp .eq 300, 3) := by decide +kernel
theorem dL_law_596 : decode cL_law 596 = .ok (.iconst 0, 1) := by decide +kernel
theorem dL_law_597 : decode cL_law 597 = .ok (.ireturn, 1) := by decide +kernel
theorem dL_law_598 : decode cL_law 598 = .ok (.aload_n 1, 1) := by decide +kernel
theorem dL_law_599 : decode cL_law 599 = .ok (.aload_n 0, 1) := by decide +kernel
theorem dL_law_600 : decode cL_law 600 = .ok (.iload_n 3, 1) := by decide +kernel
theorem dL_law_601 : decode cL_law 601 = .ok (.iconst 1, 1) := by decide +kernel
theorem dL_law_602 : decode cL_law 602 = .ok (.iadd, 1) := by decide +kernel
theorem dL_law_603 : decode cL_law 603 = .ok (.iaload, 1) := by decide +kernel
theorem dL_law_604 : decode cL_law 604 = .ok (.invokevirtual 77, 3) := by decide +kernel
theorem dL_law_607 : decode cL_law 607 = .ok (.aload_n 2, 1) := by decide +kernel
theorem dL_law_608 : decode cL_law 608 = .ok (.aload_n 0, 1) := by decide +kernel
theorem dL_law_609 : decode cL_law 609 = .ok (.iload_n 3, 1) := by decide +kernel
theorem dL_law_610 : decode cL_law 610 = .ok (.iconst 1, 1) := by decide +kernel
theorem dL_law_611 : decode cL_law 611 = .ok (.iadd, 1) := by decide +kernel
theorem dL_law_612 : decode cL_law 612 = .ok (.iaload, 1) := by decide +kernel
theorem dL_law_613 : decode cL_law 613 = .ok (.invokevirtual 80, 3) := by decide +kernel
theorem dL_law_616 : decode cL_law 616 = .ok (.if_icmp .eq 277, 3) := by decide +kernel
theorem dL_law_619 : decode cL_law 619 = .ok (.iconst 0, 1) := by decide +kernel
theorem dL_law_620 : decode cL_law 620 = .ok (.ireturn, 1) := by decide +kernel
theorem dL_law_621 : decode cL_law 621 = .ok (.aload_n 1, 1) := by decide +kernel
theorem dL_law_622 : decode cL_law 622 = .ok (.aload_n 0, 1) := by decide +kernel
theorem dL_law_623 : decode cL_law 623 = .ok (.iload_n 3, 1) := by decide +kernel
theorem dL_law_624 : decode cL_law 624 = .ok (.iconst 1, 1) := by decide +kernel
theorem dL_law_625 : decode cL_law 625 = .ok (.iadd, 1) := by decide +kernel
theorem dL_law_626 : decode cL_law 626 = .ok (.iaload, 1) := by decide +kernel
theorem dL_law_627 : decode cL_law 627 = .ok (.aload_n 0, 1) := by decide +kernel
theorem dL_law_628 : decode cL_law 628 = .ok (.iload_n 3, 1) := by decide +kernel
theorem dL_law_629 : decode cL_law 629 = .ok (.iconst 2, 1) := by decide +kernel
theorem dL_law_630 : decode cL_law 630 = .ok (.iadd, 1) := by decide +kernel
theorem dL_law_631 : decode cL_law 631 = .ok (.iaload, 1) := by decide +kernel
theorem dL_law_632 : decode cL_law 632 = .ok (.invokevirtual 81, 3) := by decide +kernel
theorem dL_law_635 : decode cL_law 635 = .ok (.aload_n 2, 1) := by decide +kernel
theorem dL_law_636 : decode cL_law 636 = .ok (.aload_n 0, 1) := by decide +kernel
theorem dL_law_637 : decode cL_law 637 = .ok (.iload_n 3, 1) := by decide +kernel
theorem dL_law_638 : decode cL_law 638 = .ok (.iconst 1, 1) := by decide +kernel
theorem dL_law_639 : decode cL_law 639 = .ok (.iadd, 1) := by decide +kernel
theorem dL_law_640 : decode cL_law 640 = .ok (.iaload, 1) := by decide +kernel
theorem dL_law_641 : decode cL_law 641 = .ok (.aload_n 0, 1) := by decide +kernel
theorem dL_law_642 : decode cL_law 642 = .ok (.iload_n 3, 1) := by decide +kernel
theorem dL_law_643 : decode cL_law 643 = .ok (.iconst 2, 1) := by decide +kernel
theorem dL_law_644 : decode cL_law 644 = .ok (.iadd, 1) := by decide +kernel
theorem dL_law_645 : decode cL_law 645 = .ok (.iaload, 1) := by decide +kernel
theorem dL_law_646 : decode cL_law 646 = .ok (.invokevirtual 84, 3) := by decide +kernel
theorem dL_law_649 : decode cL_law 649 = .ok (.if_icmp .eq 244, 3) := by decide +kernel
theorem dL_law_652 : decode cL_law 652 = .ok (.iconst 0, 1) := by decide +kernel
theorem dL_law_653 : decode cL_law 653 = .ok (.ireturn, 1) := by decide +kernel
theorem dL_law_654 : decode cL_law 654 = .ok (.aload_n 1, 1) := by decide +kernel
theorem dL_law_655 : decode cL_law 655 = .ok (.aload_n 0, 1) := by decide +kernel
theorem dL_law_656 : decode cL_law 656 = .ok (.iload_n 3, 1) := by decide +kernel
theorem dL_law_657 : decode cL_law 657 = .ok (.iconst 1, 1) := by decide +kernel
theorem dL_law_658 : decode cL_law 658 = .ok (.iadd, 1) := by decide +kernel
theorem dL_law_659 : decode cL_law 659 = .ok (.iaload, 1) := by decide +kernel
theorem dL_law_660 : decode cL_law 660 = .ok (.invokevirtual 85, 3) := by decide +kernel
theorem dL_law_663 : decode cL_law 663 = .ok (.aload_n 2, 1) := by decide +kernel
theorem dL_law_664 : decode cL_law 664 = .ok (.aload_n 0, 1) := by decide +kernel
theorem dL_law_665 : decode cL_law 665 = .ok (.iload_n 3, 1) := by decide +kernel
theorem dL_law_666 : decode cL_law 666 = .ok (.iconst 1, 1) := by decide +kernel
theorem dL_law_667 : decode cL_law 667 = .ok (.iadd, 1) := by decide +kernel
theorem dL_law_668 : decode cL_law 668 = .ok (.iaload, 1) := by decide +kernel
theorem dL_law_669 : decode cL_law 669 = .ok (.invokevirtual 88, 3) := by decide +kernel
theorem dL_law_672 : decode cL_law 672 = .ok (.if_icmp .eq 221, 3) := by decide +kernel
theorem dL_law_675 : decode cL_law 675 = .ok (.iconst 0, 1) := by decide +kernel
theorem dL_law_676 : decode cL_law 676 = .ok (.ireturn, 1) := by decide +kernel
theorem dL_law_677 : decode cL_law 677 = .ok (.aload_n 1, 1) := by decide +kernel
theorem dL_law_678 : decode cL_law 678 = .ok (.aload_n 0, 1) := by decide +kernel
theorem dL_law_679 : decode cL_law 679 = .ok (.iload_n 3, 1) := by decide +kernel
theorem dL_law_680 : decode cL_law 680 = .ok (.iconst 1, 1) := by decide +kernel
theorem dL_law_681 : decode cL_law 681 = .ok (.iadd, 1) := by decide +kernel
theorem dL_law_682 : decode cL_law 682 = .ok (.iaload, 1) := by decide +kernel
theorem dL_law_683 : decode cL_law 683 = .ok (.invokevirtual 89, 3) := by decide +kernel
theorem dL_law_686 : decode cL_law 686 = .ok (.aload_n 2, 1) := by decide +kernel
theorem dL_law_687 : decode cL_law 687 = .ok (.aload_n 0, 1) := by decide +kernel
theorem dL_law_688 : decode cL_law 688 = .ok (.iload_n 3, 1) := by decide +kernel
theorem dL_law_689 : decode cL_law 689 = .ok (.iconst 1, 1) := by decide +kernel
theorem dL_law_690 : decode cL_law 690 = .ok (.iadd, 1) := by decide +kernel
theorem dL_law_691 : decode cL_law 691 = .ok (.iaload, 1) := by decide +kernel
theorem dL_law_692 : decode cL_law 692 = .ok (.invokevirtual 92, 3) := by decide +kernel
theorem dL_law_695 : decode cL_law 695 = .ok (.if_icmp .eq 198, 3) := by decide +kernel
theorem dL_law_698 : decode cL_law 698 = .ok (.iconst 0, 1) := by decide +kernel
theorem dL_law_699 : decode cL_law 699 = .ok (.ireturn, 1) := by decide +kernel
theorem dL_law_700 : decode cL_law 700 = .ok (.aload_n 1, 1) := by decide +kernel
theorem dL_law_701 : decode cL_law 701 = .ok (.aload_n 0, 1) := by decide +kernel
theorem dL_law_702 : decode cL_law 702 = .ok (.iload_n 3, 1) := by decide +kernel
theorem dL_law_703 : decode cL_law 703 = .ok (.iconst 1, 1) := by decide +kernel
theorem dL_law_704 : decode cL_law 704 = .ok (.iadd, 1) := by decide +kernel
theorem dL_law_705 : decode cL_law 705 = .ok (.iaload, 1) := by decide +kernel
theorem dL_law_706 : decode cL_law 706 = .ok (.aload_n 0, 1) := by decide +kernel
theorem dL_law_707 : decode cL_law 707 = .ok (.iload_n 3, 1) := by decide +kernel
theorem dL_law_708 : decode cL_law 708 = .ok (.iconst 2, 1) := by decide +kernel
theorem dL_law_709 : decode cL_law 709 = .ok (.iadd, 1) := by decide +kernel
theorem dL_law_710 : decode cL_law 710 = .ok (.iaload, 1) := by decide +kernel
theorem dL_law_711 : decode cL_law 711 = .ok (.invokevirtual 93, 3) := by decide +kernel
theorem dL_law_714 : decode cL_law 714 = .ok (.aload_n 2, 1) := by decide +kernel
theorem dL_law_715 : decode cL_law 715 = .ok (.aload_n 0, 1) := by decide +kernel
theorem dL_law_716 : decode cL_law 716 = .ok (.iload_n 3, 1) := by decide +kernel
theorem dL_law_717 : decode cL_law 717 = .ok (.iconst 1, 1) := by decide +kernel
theorem dL_law_718 : decode cL_law 718 = .ok (.iadd, 1) := by decide +kernel
theorem dL_law_719 : decode cL_law 719 = .ok (.iaload, 1) := by decide +kernel
theorem dL_law_720 : decode cL_law 720 = .ok (.aload_n 0, 1) := by decide +kernel
theorem dL_law_721 : decode cL_law 721 = .ok (.iload_n 3, 1) := by decide +kernel
theorem dL_law_722 : decode cL_law 722 = .ok (.iconst 2, 1) := by decide +kernel
theorem dL_law_723 : decode cL_law 723 = .ok (.iadd, 1) := by decide +kernel
theorem dL_law_724 : decode cL_law 724 = .ok (.iaload, 1) := by decide +kernel
theorem dL_law_725 : decode cL_law 725 = .ok (.invokevirtual 96, 3) := by decide +kernel
theorem dL_law_728 : decode cL_law 728 = .ok (.if_icmp .eq 165, 3) := by decide +kernel
theorem dL_law_731 : decode cL_law 731 = .ok (.iconst 0, 1) := by decide +kernel
theorem dL_law_732 : decode cL_law 732 = .ok (.ireturn, 1) := by decide +kernel
theorem dL_law_733 : decode cL_law 733 = .ok (.aload_n 1, 1) := by decide +kernel
theorem dL_law_734 : decode cL_law 734 = .ok (.invokevirtual 97, 3) := by decide +kernel
theorem dL_law_737 : decode cL_law 737 = .ok (.aload_n 2, 1) := by decide +kernel
theorem dL_law_738 : decode cL_law 738 = .ok (.invokevirtual 100, 3) := by decide +kernel
theorem dL_law_741 : decode cL_law 741 = .ok (.if_icmp .eq 152, 3) := by decide +kernel
theorem dL_law_744 : decode cL_law 744 = .ok (.iconst 0, 1) := by decide +kernel
theorem dL_law_745 : decode cL_law 745 = .ok (.ireturn, 1) := by decide +kernel
theorem dL_law_746 : decode cL_law 746 = .ok (.aload_n 1, 1) := by decide +kernel
theorem dL_law_747 : decode cL_law 747 = .ok (.invokevirtual 101, 3) := by decide +kernel
theorem dL_law_750 : decode cL_law 750 = .ok (.aload_n 2, 1) := by decide +kernel
theorem dL_law_751 : decode cL_law 751 = .ok (.invokevirtual 104, 3) := by decide +kernel
theorem dL_law_754 : decode cL_law 754 = .ok (.if_icmp .eq 139, 3) := by decide +kernel
theorem dL_law_757 : decode cL_law 757 = .ok (.iconst 0, 1) := by decide +kernel
theorem dL_law_758 : decode cL_law 758 = .ok (.ireturn, 1) := by decide +kernel
theorem dL_law_759 : decode cL_law 759 = .ok (.aload_n 1, 1) := by decide +kernel
theorem dL_law_760 : decode cL_law 760 = .ok (.aload_n 0, 1) := by decide +kernel
theorem dL_law_761 : decode cL_law 761 = .ok (.iload_n 3, 1) := by decide +kernel
theorem dL_law_762 : decode cL_law 762 = .ok (.iconst 1, 1) := by decide +kernel
theorem dL_law_763 : decode cL_law 763 = .ok (.iadd, 1) := by decide +kernel
theorem dL_law_764 : decode cL_law 764 = .ok (.iaload, 1) := by decide +kernel
theorem dL_law_765 : decode cL_law 765 = .ok (.ifCond .eq 7, 3) := by decide +kernel
theorem dL_law_768 : decode cL_law 768 = .ok (.iconst 1, 1) := by decide +kernel
theorem dL_law_769 : decode cL_law 769 = .ok (.goto 4, 3) := by decide +kernel
theorem dL_law_772 : decode cL_law 772 = .ok (.iconst 0, 1) := by decide +kernel
theorem dL_law_773 : decode cL_law 773 = .ok (.invokevirtual 105, 3) := by decide +kernel
theorem dL_law_776 : decode cL_law 776 = .ok (.aload_n 2, 1) := by decide +kernel
theorem dL_law_777 : decode cL_law 777 = .ok (.aload_n 0, 1) := by decide +kernel
theorem dL_law_778 : decode cL_law 778 = .ok (.iload_n 3, 1) := by decide +kernel
theorem dL_law_779 : decode cL_law 779 = .ok (.iconst 1, 1) := by decide +kernel
theorem dL_law_780 : decode cL_law 780 = .ok (.iadd, 1) := by decide +kernel
theorem dL_law_781 : decode cL_law 781 = .ok (.iaload, 1) := by decide +kernel
theorem dL_law_782 : decode cL_law 782 = .ok (.ifCond .eq 7, 3) := by decide +kernel
theorem dL_law_785 : decode cL_law 785 = .ok (.iconst 1, 1) := by decide +kernel
theorem dL_law_786 : decode cL_law 786 = .ok (.goto 4, 3) := by decide +kernel
theorem dL_law_789 : decode cL_law 789 = .ok (.iconst 0, 1) := by decide +kernel
theorem dL_law_790 : decode cL_law 790 = .ok (.invokevirtual 109, 3) := by decide +kernel
theorem dL_law_793 : decode cL_law 793 = .ok (.if_icmp .eq 100, 3) := by decide +kernel
theorem dL_law_796 : decode cL_law 796 = .ok (.iconst 0, 1) := by decide +kernel
theorem dL_law_797 : decode cL_law 797 = .ok (.ireturn, 1) := by decide +kernel
theorem dL_law_798 : decode cL_law 798 = .ok (.aload_n 1, 1) := by decide +kernel
theorem dL_law_799 : decode cL_law 799 = .ok (.invokevirtual 110, 3) := by decide +kernel
theorem dL_law_802 : decode cL_law 802 = .ok (.aload_n 2, 1) := by decide +kernel
theorem dL_law_803 : decode cL_law 803 = .ok (.invokevirtual 113, 3) := by decide +kernel
theorem dL_law_806 : decode cL_law 806 = .ok (.if_icmp .eq 87, 3) := by decide +kernel
theorem dL_law_809 : decode cL_law 809 = .ok (.iconst 0, 1) := by decide +kernel
theorem dL_law_810 : decode cL_law 810 = .ok (.ireturn, 1) := by decide +kernel
theorem dL_law_811 : decode cL_law 811 = .ok (.aload_n 1, 1) := by decide +kernel
theorem dL_law_812 : decode cL_law 812 = .ok (.invokevirtual 114, 3) := by decide +kernel
theorem dL_law_815 : decode cL_law 815 = .ok (.aload_n 2, 1) := by decide +kernel
theorem dL_law_816 : decode cL_law 816 = .ok (.invokevirtual 117, 3) := by decide +kernel
theorem dL_law_819 : decode cL_law 819 = .ok (.if_icmp .eq 74, 3) := by decide +kernel
theorem dL_law_822 : decode cL_law 822 = .ok (.iconst 0, 1) := by decide +kernel
theorem dL_law_823 : decode cL_law 823 = .ok (.ireturn, 1) := by decide +kernel
theorem dL_law_824 : decode cL_law 824 = .ok (.aload_n 1, 1) := by decide +kernel
theorem dL_law_825 : decode cL_law 825 = .ok (.aload_n 0, 1) := by decide +kernel
theorem dL_law_826 : decode cL_law 826 = .ok (.iload_n 3, 1) := by decide +kernel
theorem dL_law_827 : decode cL_law 827 = .ok (.iconst 1, 1) := by decide +kernel
theorem dL_law_828 : decode cL_law 828 = .ok (.iadd, 1) := by decide +kernel
theorem dL_law_829 : decode cL_law 829 = .ok (.iaload, 1) := by decide +kernel
theorem dL_law_830 : decode cL_law 830 = .ok (.invokevirtual 118, 3) := by decide +kernel
theorem dL_law_833 : decode cL_law 833 = .ok (.aload_n 2, 1) := by decide +kernel
theorem dL_law_834 : decode cL_law 834 = .ok (.aload_n 0, 1) := by decide +kernel
theorem dL_law_835 : decode cL_law 835 = .ok (.iload_n 3, 1) := by decide +kernel
theorem dL_law_836 : decode cL_law 836 = .ok (.iconst 1, 1) := by decide +kernel
theorem dL_law_837 : decode cL_law 837 = .ok (.iadd, 1) := by decide +kernel
theorem dL_law_838 : decode cL_law 838 = .ok (.iaload, 1) := by decide +kernel
theorem dL_law_839 : decode cL_law 839 = .ok (.invokevirtual 121, 3) := by decide +kernel
theorem dL_law_842 : decode cL_law 842 = .ok (.if_icmp .eq 51, 3) := by decide +kernel
theorem dL_law_845 : decode cL_law 845 = .ok (.iconst 0, 1) := by decide +kernel
theorem dL_law_846 : decode cL_law 846 = .ok (.ireturn, 1) := by decide +kernel
theorem dL_law_847 : decode cL_law 847 = .ok (.aload_n 1, 1) := by decide +kernel
theorem dL_law_848 : decode cL_law 848 = .ok (.aload_n 0, 1) := by decide +kernel
theorem dL_law_849 : decode cL_law 849 = .ok (.iload_n 3, 1) := by decide +kernel
theorem dL_law_850 : decode cL_law 850 = .ok (.iconst 1, 1) := by decide +kernel
theorem dL_law_851 : decode cL_law 851 = .ok (.iadd, 1) := by decide +kernel
theorem dL_law_852 : decode cL_law 852 = .ok (.iaload, 1) := by decide +kernel
theorem dL_law_853 : decode cL_law 853 = .ok (.invokevirtual 122, 3) := by decide +kernel
theorem dL_law_856 : decode cL_law 856 = .ok (.aload_n 2, 1) := by decide +kernel
theorem dL_law_857 : decode cL_law 857 = .ok (.aload_n 0, 1) := by decide +kernel
theorem dL_law_858 : decode cL_law 858 = .ok (.iload_n 3, 1) := by decide +kernel
theorem dL_law_859 : decode cL_law 859 = .ok (.iconst 1, 1) := by decide +kernel
theorem dL_law_860 : decode cL_law 860 = .ok (.iadd, 1) := by decide +kernel
theorem dL_law_861 : decode cL_law 861 = .ok (.iaload, 1) := by decide +kernel
theorem dL_law_862 : decode cL_law 862 = .ok (.invokevirtual 125, 3) := by decide +kernel
theorem dL_law_865 : decode cL_law 865 = .ok (.if_icmp .eq 28, 3) := by decide +kernel
theorem dL_law_868 : decode cL_law 868 = .ok (.iconst 0, 1) := by decide +kernel
theorem dL_law_869 : decode cL_law 869 = .ok (.ireturn, 1) := by decide +kernel
theorem dL_law_870 : decode cL_law 870 = .ok (.aload_n 1, 1) := by decide +kernel
theorem dL_law_871 : decode cL_law 871 = .ok (.aload_n 0, 1) := by decide +kernel
theorem dL_law_872 : decode cL_law 872 = .ok (.iload_n 3, 1) := by decide +kernel
theorem dL_law_873 : decode cL_law 873 = .ok (.iconst 1, 1) := by decide +kernel
theorem dL_law_874 : decode cL_law 874 = .ok (.iadd, 1) := by decide +kernel
theorem dL_law_875 : decode cL_law 875 = .ok (.iaload, 1) := by decide +kernel
theorem dL_law_876 : decode cL_law 876 = .ok (.invokevirtual 126, 3) := by decide +kernel
theorem dL_law_879 : decode cL_law 879 = .ok (.aload_n 2, 1) := by decide +kernel
theorem dL_law_880 : decode cL_law 880 = .ok (.aload_n 0, 1) := by decide +kernel
theorem dL_law_881 : decode cL_law 881 = .ok (.iload_n 3, 1) := by decide +kernel
theorem dL_law_882 : decode cL_law 882 = .ok (.iconst 1, 1) := by decide +kernel
theorem dL_law_883 : decode cL_law 883 = .ok (.iadd, 1) := by decide +kernel
theorem dL_law_884 : decode cL_law 884 = .ok (.iaload, 1) := by decide +kernel
theorem dL_law_885 : decode cL_law 885 = .ok (.invokevirtual 129, 3) := by decide +kernel
theorem dL_law_888 : decode cL_law 888 = .ok (.if_icmp .eq 5, 3) := by decide +kernel
theorem dL_law_891 : decode cL_law 891 = .ok (.iconst 0, 1) := by decide +kernel
theorem dL_law_892 : decode cL_law 892 = .ok (.ireturn, 1) := by decide +kernel
theorem dL_law_893 : decode cL_law 893 = .ok (.iinc 3 5, 3) := by decide +kernel
theorem dL_law_896 : decode cL_law 896 = .ok (.goto (-878), 3) := by decide +kernel
theorem dL_law_899 : decode cL_law 899 = .ok (.iconst 1, 1) := by decide +kernel
theorem dL_law_900 : decode cL_law 900 = .ok (.ireturn, 1) := by decide +kernel
end
section
/-! BASE: one list of words for all methods, one form of contract, one row a call. -/
def isNest : Cond → Bool
  | .methodLinkNest .. => true
  | .fieldLinkNest .. => true
  | _ => false
def TB : List Cond := lw_tbl.filter goodWord
def TN : List Cond := lw_tbl.filter isNest
theorem tb_of {w : Cond} (h : w ∈ lw_tbl) (hg : goodWord w = true) : w ∈ TB := List.mem_filter.mpr ⟨h, hg⟩
theorem tn_of {w : Cond} (h : w ∈ lw_tbl) (hg : isNest w = true) : w ∈ TN := List.mem_filter.mpr ⟨h, hg⟩
theorem tb_0 {w : Cond} (i : Nat) (h : (k2_sels lw_privs)[i]? = some w) : w ∈ lw_tbl := List.mem_append_left _ (List.mem_of_getElem? h)
theorem tb_1 {w : Cond} (i : Nat) (h : tables_1_1[i]? = some w) : w ∈ lw_tbl := List.mem_append_right _ (List.mem_append_left _ (List.mem_of_getElem? h))
theorem tb_2 {w : Cond} (i : Nat) (h : tables_1_2[i]? = some w) : w ∈ lw_tbl := List.mem_append_right _ (List.mem_append_right _ (List.mem_append_left _ (List.mem_of_getElem? h)))
theorem tb_3 {w : Cond} (i : Nat) (h : tables_1_3[i]? = some w) : w ∈ lw_tbl := List.mem_append_right _ (List.mem_append_right _ (List.mem_append_right _ (List.mem_append_left _ (List.mem_of_getElem? h))))
theorem tb_4 {w : Cond} (i : Nat) (h : tables_1_4[i]? = some w) : w ∈ lw_tbl := List.mem_append_right _ (List.mem_append_right _ (List.mem_append_right _ (List.mem_append_right _ (List.mem_append_left _ (List.mem_of_getElem? h)))))
theorem tb_5 {w : Cond} (i : Nat) (h : tables_1_5[i]? = some w) : w ∈ lw_tbl := List.mem_append_right _ (List.mem_append_right _ (List.mem_append_right _ (List.mem_append_right _ (List.mem_append_right _ (List.mem_of_getElem? h)))))
theorem tb_goodIn {y : Cond} (hy : y ∈ TB) : GoodIn TB (y :: TB) := fun w hw => by
  have hm : w ∈ TB := (List.mem_cons.mp hw).elim (fun e => e ▸ hy) id
  exact ⟨hm, good_of_word (List.mem_filter.mp hm).2⟩
theorem tn_warm {s U : State} (hW : s.WarmedH U.vm) (h : ∀ w ∈ TN, va_Nw w s) : ∀ w ∈ TN, va_Nw w U := fun w hw => by
  have h1 := (List.mem_filter.mp hw).2
  have h2 := h w hw
  cases w <;> first | exact va_Nw.warmM hW h2 | exact va_Nw.warmF hW h2 | exact absurd h1 (by decide) | exact absurd h1 (by simp [isNest])
theorem tn_same {s U : State} (hv : s.vm = U.vm) (h : ∀ w ∈ TN, va_Nw w s) : ∀ w ∈ TN, va_Nw w U := fun w hw => by
  have h1 := (List.mem_filter.mp hw).2
  have h2 := h w hw
  have h3 : w.onTables = true := by
    cases w <;> first | rfl | exact absurd h1 (by simp [isNest])
  exact va_Nw.same h3 hv h2
/-! what a method may take as known of the tables and of the statics: G = (class numbers, array classes, static addresses) -/
abbrev GP : Type := va_G × (Nat → ClassId) × (Nat → Nat)
def tysG (G : GP) : List (ClassId × FieldType) := [(G.2.1 0, .int), (G.2.1 1, .long), (G.2.1 2, .boolean), (G.2.1 3, .byte), (G.2.1 4, .array .int), (G.2.1 5, .object RX8)]
def hgtI (j : Nat) : Int32 := match j with
  | 0 => 6
  | 1 => 3
  | 2 => 3
  | 3 => 6
  | 4 => 4
  | _ => 6
def hdsI (j : Nat) : Int32 := match j with
  | 0 => 1
  | 1 => 1
  | 2 => 1
  | 3 => 0
  | 4 => 2
  | _ => 2
def hgtV (j : Nat) : Value := .int (hgtI j)
def hdsV (j : Nat) : Value := .int (hdsI j)
def kindB : List (List Int32) := [[109, 99, 107, 115, 97, 116]]
def va_AOA (ty : FieldType) (U : State) : Prop := (Cond.arrayOver (.array ty)).before #[] U = true
theorem va_AOA.use {ty : FieldType} {A : Array Value} {U : State} (h : va_AOA ty U) : (Cond.arrayOver (.array ty)).before A U = true := h
theorem va_AOA.moved {ty : FieldType} {u U : State} (hvm : u.vm.Alike U.vm) (h : va_AOA ty u) : va_AOA ty U := by
  unfold va_AOA Cond.before Cond.holds at h ⊢
  simp only [Cond.value, beq_iff_eq] at h ⊢
  cases hc : u.vm.findClass (FieldType.array ty).toString with
  | none => simp [hc] at h
  | some comp =>
    simp only [hc, Option.bind_some, Option.bind_eq_some_iff, Option.map_eq_some_iff] at h
    obtain ⟨c, hi, k, hk, hb⟩ := h
    obtain ⟨k', hk', he⟩ := hvm.2.2 _ _ hk
    have hcomp' : U.vm.findClass (FieldType.array ty).toString = some comp := by rw [hvm.findClass]; exact hc
    have hkind : k'.kind = k.kind := by rw [he]
    rw [hcomp', Option.bind_some, Option.bind_eq_some_iff]
    refine ⟨c, (hvm.findIdx?_eqK _ (fun _ => rfl)).trans hi, ?_⟩
    rw [hk', Option.map_some, hkind, hvm.findClass]
    exact congrArg some hb
def Gx (G : GP) (A : Nat → Prop) (U : State) : Prop :=
  va_K G.1 vwCl (tysG G) U ∧ (∀ w ∈ TN, va_Nw w U) ∧
  (va_Z RX10 "HEIGHT_OF_KIND" "[I" (.ref (G.2.2 0)) A U U.heap ∧ va_T .int (G.2.2 0) 6 hgtV A U U.heap) ∧
  (va_Z RX10 "HEADS_OF_KIND" "[I" (.ref (G.2.2 1)) A U U.heap ∧ va_T .int (G.2.2 1) 6 hdsV A U U.heap) ∧
  va_Z RJ0 "COMPACT_STRINGS" "Z" (.int 1) A U U.heap ∧ vk_S 1 [6] kindB (fun _ => G.2.2 2) (fun _ => G.2.2 3) A U U.heap ∧ vk_R RX5 52 "mcksat" (G.2.2 2) U ∧ va_AO RX8 U ∧ va_AOA .int U
theorem Gx.go {G : GP} {A B : Nat → Prop} {s U : State} {H : Heap} {locs : List Loc} (hG : Gx G A s) (hS : va_S A s.heap H locs) (hU : U.heap = H) (hW : s.WarmedH U.vm) (hB : ∀ q, B q → A q) : Gx G B U := by
  subst hU
  obtain ⟨h1, h2, ⟨h3, h4⟩, ⟨h5, h6⟩, h7, h8, h9, h10, h11⟩ := hG
  have ha := hW.alike
  exact ⟨va_K.moved ha h1, tn_warm hW h2, ⟨va_Z.moved ha ((h3.kept hS.2.1).narrow hB), va_T.moved ha ((h4.kept hS.2.1).narrow hB)⟩, ⟨va_Z.moved ha ((h5.kept hS.2.1).narrow hB), va_T.moved ha ((h6.kept hS.2.1).narrow hB)⟩, va_Z.moved ha ((h7.kept hS.2.1).narrow hB), vk_S.moved ha ((h8.kept hS.2.1).narrow hB), vk_R.warm hW h9, va_AO.moved ha h10, va_AOA.moved ha h11⟩
theorem Gx.same {G : GP} {A : Nat → Prop} {u U : State} (hh : U.heap = u.heap) (hv : U.vm = u.vm) (hG : Gx G A u) : Gx G A U := by
  obtain ⟨h1, h2, ⟨h3, h4⟩, ⟨h5, h6⟩, h7, h8, h9, h10, h11⟩ := hG
  have ha : u.vm.Alike U.vm := by rw [hv]; exact Vm.Alike.refl u.vm
  refine ⟨va_K.moved ha h1, tn_same hv.symm h2, ⟨?_, ?_⟩, ⟨?_, ?_⟩, ?_, ?_, vk_R.same hv h9, va_AO.moved ha h10, va_AOA.moved ha h11⟩
  · rw [hh]; exact va_Z.moved ha h3
  · rw [hh]; exact va_T.moved ha h4
  · rw [hh]; exact va_Z.moved ha h5
  · rw [hh]; exact va_T.moved ha h6
  · rw [hh]; exact va_Z.moved ha h7
  · rw [hh]; exact vk_S.moved ha h8
/-! contracts -/
def RM (d : Nat) : Room := { frames := d, cells := 0, slots := 0, locals := 40 * d }
def Cp (G : GP) (av : List Value) (w : va_W) (sz : Nat) : Array Value → State → Prop := va_Pc av (fun U => U.heap.size = sz ∧ va_P G.1 vwCl w U.heap ∧ Gx G (va_A w sz) U ∧ va_D (fun _ => True) w)
def QC (G : GP) (w' : va_W) (rv : Option Value) (A : Nat → Prop) : Array Value → State → Outcome → State → Prop := fun _ st oc t => (oc = .returned rv ∧ va_P G.1 vwCl w' t.heap ∧ va_D A w') ∧ va_F A st t
/-- the method y, on the arguments av over the cells w: it returns rv and leaves the cells w' -/
def CC (l : Launch) (G : GP) (y : MethodName) (cc : ByteArray) (maxL : Nat) (ret : Option FieldType) (d : Nat) (av : List Value) (w w' : va_W) (rv : Option Value) : Prop :=
  ∀ sz : Nat, Met l y (Cond.code y cc maxL ret :: TB) (RM d) (Cp G av w sz) (QC G w' rv (va_A w sz)) 0 0 (va_A w sz)
def Cx (p : Program) (s : State) (m : MethodId) (meth : Method) (c : Code) (G : GP) (cc : ByteArray) (own : String) (nL : Nat) (ret : Option FieldType) (args : Array Value) (A : Nat → Prop) : Prop :=
  p.tables.exec = Jvm.exec ∧ c.code = cc ∧ meth.sig.returnType = ret ∧ c.maxLocals = nL ∧ (∀ w ∈ TB, w.before args s = true) ∧ s.vm.findClass own = some m.cls ∧ meth.locks = false ∧ (∀ q : Nat, s.heap.size ≤ q → A q) ∧ Gx G A s
def QQ (below : List Frame) (G : GP) (args : Array Value) (s : State) (w' : va_W) (rv : Option Value) (A : Nat → Prop) : State → Prop := MQ below (QC G w' rv A) args s 0 0 A
theorem Cp.blind {G : GP} {av : List Value} {w : va_W} {sz : Nat} : FrameBlind (Cp G av w sz) := fun _ U _ _ q => ⟨q.1, q.2.1, q.2.2.1, Gx.same (u := U) rfl rfl q.2.2.2.1, q.2.2.2.2⟩
theorem CC.of {l : Launch} {G : GP} {y : MethodName} {cc : ByteArray} {maxL : Nat} {ret : Option FieldType} {d : Nat} {av : List Value} {w w' : va_W} {rv : Option Value} (hy : plainName y.cls = true) (hn : (lg_sl av).length ≤ maxL)
    (body : ∀ (p : Program) (e : Env) (s : State) (m : MethodId) (below : List Frame) (meth : Method) (c : Code) (A : Nat → Prop), Cx p s m meth c G cc y.cls maxL ret av.toArray A → va_P G.1 vwCl w s.heap → va_D A w → va_S A s.heap s.heap [] → ∀ ls : Array Slot, lv_has ls maxL (lv_args 0 av) →
      W p l e (RM d) s m av.toArray below meth c s.heap [] 0 0 (QQ below G av.toArray s w' rv A) (F0 m 0 ls [])) : CC l G y cc maxL ret d av w w' rv := by
  intro sz
  refine Met.ofW (cc := cc) (maxL := maxL) (ret := ret) hy rfl ?_
  intro p e s m args below meth c s₁ B hml hv
  obtain ⟨rfl, hsz, hP, hG, hD0⟩ := hv
  subst hsz
  have hts := atoms_spec (ws := Cond.code y cc maxL ret :: TB) B.pre
  rw [lg_entry_eq]
  exact body p e s m below meth c (va_A w s.heap.size) ⟨B.exec, B.bytes, B.returns, hml, fun w hw => hts w (List.mem_cons_of_mem _ hw), findClass_of_methodNamed B.named, B.notSynchronized, fun q h => Or.inr h, hG⟩ hP hD0.self va_S.rf _ (lv_entry av hn)
/-! naming, and the residue of a program -/
def nm {α β : Type} (x : α) (k : α → Option β) : Option β := k x
theorem nm_ex {α β : Type} {x : α} {k : α → Option β} {r : β} (h : nm x k = some r) : ∃ y, y = x ∧ k y = some r := ⟨x, rfl, h⟩
theorem bd_ex {α β : Type} {x : Option α} {k : α → Option β} {r : β} (h : x.bind k = some r) : ∃ y, x = some y ∧ k y = some r := by
  cases x with
  | none => cases h
  | some y => exact ⟨y, rfl, h⟩
theorem if_t {α : Type} {c : Prop} [Decidable c] {a b r : α} (hc : c) (h : (if c then a else b) = r) : a = r := by rw [if_pos hc] at h; exact h
theorem if_f {α : Type} {c : Prop} [Decidable c] {a b r : α} (hc : ¬ c) (h : (if c then a else b) = r) : b = r := by rw [if_neg hc] at h; exact h
/-- a check that didn't fail -/
theorem ck {β : Type} {c : Prop} [Decidable c] {a : Option β} {r : β} (h : (if c then none else a) = some r) : ¬ c ∧ a = some r := by
  by_cases hc : c
  · rw [if_pos hc] at h; cases h
  · rw [if_neg hc] at h; exact ⟨hc, h⟩
theorem sm {α : Type} {a b : α} (h : some a = some b) : a = b := Option.some.inj h
/-! states of the objects: ints, int arrays, longs, long arrays, each by its place -/
abbrev ST : Type := (Nat → Int32) × (Nat → Nat → Int32) × (Nat → Int64) × (Nat → Nat → Int64)
def sI (σ : ST) (k : Nat) (v : Int32) : ST := (fun j => if j = k then v else σ.1 j, σ.2)
def sA (σ : ST) (k : Nat) (i : Nat) (v : Int32) : ST := (σ.1, fun j => if j = k then upd (σ.2.1 k) i v else σ.2.1 j, σ.2.2)
def sW (σ : ST) (k : Nat) (f : Nat → Int32) : ST := (σ.1, fun j => if j = k then f else σ.2.1 j, σ.2.2)
def sJ (σ : ST) (k : Nat) (v : Int64) : ST := (σ.1, σ.2.1, fun j => if j = k then v else σ.2.2.1 j, σ.2.2.2)
def sL (σ : ST) (k : Nat) (i : Nat) (v : Int64) : ST := (σ.1, σ.2.1, σ.2.2.1, fun j => if j = k then vp_updL (σ.2.2.2 k) i v else σ.2.2.2 j)
/-! the frame: what came back is put at its places -/
def putAll (ws : va_W) : List Nat → va_W → va_W
  | i :: is, c :: cs => putAll (ws.set i c) is cs
  | _, _ => ws
theorem putAll_out : ∀ (is : List Nat) (cs ws : va_W) (k : Nat), k ∉ is → (putAll ws is cs)[k]? = ws[k]?
  | [], cs, _, _, _ => by cases cs <;> rfl
  | _ :: _, [], _, _, _ => rfl
  | i :: is, c :: cs, ws, k, h => by
    rw [putAll, putAll_out is cs _ k (fun q => h (List.mem_cons_of_mem _ q))]
    exact List.getElem?_set_ne (fun e => h (by rw [e]; exact List.mem_cons_self))
theorem putAll_in : ∀ (is : List Nat) (cs ws : va_W) (j k : Nat), va_nd is = true → is.length = cs.length → (∀ i ∈ is, i < ws.length) → is[j]? = some k → (putAll ws is cs)[k]? = cs[j]?
  | [], _, _, j, k, _, _, _, h => by simp at h
  | _ :: _, [], _, _, _, _, hl, _, _ => by simp at hl
  | i :: is, c :: cs, ws, j, k, hn, hl, hb, h => by
    rw [putAll]
    simp only [va_nd, Bool.and_eq_true, decide_eq_true_eq] at hn
    cases j with
    | zero =>
      rw [List.getElem?_cons_zero] at h
      cases h
      rw [putAll_out is cs _ _ hn.1, List.getElem?_set_self (hb _ List.mem_cons_self), List.getElem?_cons_zero]
    | succ j =>
      rw [List.getElem?_cons_succ] at h ⊢
      exact putAll_in is cs _ j k hn.2 (by simpa using hl) (fun q hq => by rw [List.length_set]; exact hb q (List.mem_cons_of_mem _ hq)) h
theorem pl_at {ws w : va_W} {is : List Nat} (hs : is.map (fun i => ws[i]?) = w.map some) {k : Nat} {q : Nat × va_E} (hq : w[k]? = some q) : ∃ i, is[k]? = some i ∧ ws[i]? = some q := by
  have h1 : (is.map (fun i => ws[i]?))[k]? = some (some q) := by rw [hs, List.getElem?_map, hq]; rfl
  rw [List.getElem?_map] at h1
  cases hi : is[k]? with
  | none => rw [hi] at h1; cases h1
  | some i => rw [hi] at h1; exact ⟨i, rfl, Option.some.inj h1⟩
theorem pl_to {ws w : va_W} {is : List Nat} (hs : is.map (fun i => ws[i]?) = w.map some) {k i : Nat} (hi : is[k]? = some i) : ∃ q, w[k]? = some q ∧ ws[i]? = some q := by
  have h1 : (is.map (fun i => ws[i]?))[k]? = some (ws[i]?) := by rw [List.getElem?_map, hi]; rfl
  rw [hs, List.getElem?_map] at h1
  cases hw : w[k]? with
  | none => rw [hw] at h1; cases h1
  | some q => rw [hw] at h1; exact ⟨q, rfl, (Option.some.inj h1).symm⟩
theorem nd_inj {is : List Nat} (hn : va_nd is = true) {i j k : Nat} (h1 : is[i]? = some k) (h2 : is[j]? = some k) : i = j := va_nd_inj is hn i j k h1 h2
theorem fr_P {D : va_G} {cl : List vw_C} {ws w : va_W} {H : Heap} (hP : va_P D cl ws H) {is : List Nat} (hs : is.map (fun i => ws[i]?) = w.map some) : va_P D cl w H := fun k q hq => by
  obtain ⟨i, -, h⟩ := pl_at hs hq
  exact hP i q h
theorem fr_D {A : Nat → Prop} {ws w : va_W} (hD : va_D A ws) {is : List Nat} (hn : va_nd is = true) (hs : is.map (fun i => ws[i]?) = w.map some) : va_D (fun _ => True) w := by
  refine ⟨fun i j x y hi hj hxy => ?_, fun _ _ _ => trivial⟩
  obtain ⟨a, ha, h1⟩ := pl_at hs hi
  obtain ⟨b, hb, h2⟩ := pl_at hs hj
  have e := hD.1 a b x y h1 h2 hxy
  subst e
  exact nd_inj hn ha hb
theorem fr_put {A : Nat → Prop} {D : va_G} {cl : List vw_C} {ws wc w1 : va_W} {H H1 : Heap} (hP : va_P D cl ws H) (hD : va_D A ws) {is : List Nat} (hn : va_nd is = true) (hs : is.map (fun i => ws[i]?) = wc.map some) (had : w1.map (fun q => q.1) = wc.map (fun q => q.1))
    (hk : ∀ q : Nat, q < H.size → ¬ va_A wc H.size q → H1[q]? = H[q]?) (hP1 : va_P D cl w1 H1) : va_P D cl (putAll ws is w1) H1 ∧ va_D A (putAll ws is w1) := by
  have hl : is.length = w1.length := by
    have e1 := congrArg List.length hs
    have e2 := congrArg List.length had
    simp only [List.length_map] at e1 e2
    omega
  have hb : ∀ i ∈ is, i < ws.length := fun i hi => by
    obtain ⟨k, hk⟩ := List.getElem?_of_mem hi
    obtain ⟨q, -, h⟩ := pl_to hs hk
    exact (List.getElem?_eq_some_iff.mp h).1
  have key : ∀ (k : Nat) (q : Nat × va_E), (putAll ws is w1)[k]? = some q → (∃ j, is[j]? = some k ∧ w1[j]? = some q) ∨ (k ∉ is ∧ ws[k]? = some q) := fun k q h => by
    by_cases hki : k ∈ is
    · obtain ⟨j, hj⟩ := List.getElem?_of_mem hki
      rw [putAll_in is w1 ws j k hn hl hb hj] at h
      exact Or.inl ⟨j, hj, h⟩
    · rw [putAll_out is w1 ws k hki] at h
      exact Or.inr ⟨hki, h⟩
  have key2 : ∀ (k : Nat) (q : Nat × va_E), (putAll ws is w1)[k]? = some q → ∃ q', ws[k]? = some q' ∧ q'.1 = q.1 := fun k q h => by
    rcases key k q h with ⟨j, hj, hq⟩ | ⟨-, hq⟩
    · obtain ⟨q', h1, h2⟩ := pl_to hs hj
      refine ⟨q', h2, ?_⟩
      have e := congrArg (fun l => l[j]?) had
      simp only [List.getElem?_map, hq, h1, Option.map_some] at e
      exact (Option.some.inj e).symm
    · exact ⟨q, hq, rfl⟩
  refine ⟨fun k q h => ?_, fun i j x y hi hj hxy => ?_, fun k q h => ?_⟩
  · rcases key k q h with ⟨j, -, hq⟩ | ⟨hki, hq⟩
    · exact hP1 j q hq
    · refine (hP k q hq).kept (hk q.1 (hP k q hq).lt (fun h => ?_))
      rcases h with ⟨k2, e, h⟩ | h
      · obtain ⟨i, hi, h4⟩ := pl_at hs h
        have hij := hD.1 k i q (q.1, e) hq h4 rfl
        subst hij
        exact hki (List.mem_of_getElem? hi)
      · exact absurd (hP k q hq).lt (by omega)
  · obtain ⟨x', h1, e1⟩ := key2 i x hi
    obtain ⟨y', h2, e2⟩ := key2 j y hj
    exact hD.1 i j x' y' h1 h2 (by rw [e1, e2]; exact hxy)
  · obtain ⟨q', h1, e1⟩ := key2 k q h
    rw [← e1]
    exact hD.2 k q' h1
section BASE
variable {p : Program} {l : Launch} {e : Env} {R : Room} {s : State} {m : MethodId} {args : Array Value} {below : List Frame} {meth : Method} {c : Code} {H : Heap} {locs : List Loc} {cells slots : Nat} {Q : State → Prop}
variable {G : GP} {cc cc' : ByteArray} {own C : String} {nL maxL n index d pc : Nat} {ret ret' : Option FieldType} {A : Nat → Prop} {ls : Array Slot} {rest : List Value} {w w' w1 ws : va_W} {rv : Option Value} {y : MethodName} {av : List Value} {H0 : Heap}
theorem rt_i {r : Int32} (K : Cx p s m meth c G cc own nL (some .int) args A) (hP : va_P G.1 vwCl w' H) (hD : va_D A w') (hS : va_S A s.heap H locs) (hdg : decode cc pc = .ok (.ireturn, 1)) :
    W p l e R s m args below meth c H locs 0 0 (QQ below G args s w' (some (.int r)) A) (F0 m pc ls [.int r]) := by
  obtain ⟨hx, hb, hr, -, -, -, hlocks, -, -⟩ := K
  exact W.iret hx hb hr (fun t ht _ => ⟨⟨rfl, by rw [ht]; exact hP, hD⟩, hS.F ht⟩) hS.2.2 hdg hlocks
theorem nz_bool {r : Int32} (h : r = 0 ∨ r = 1) : narrow .boolean (.int r) = .int r := by rcases h with rfl | rfl <;> rfl
theorem rt_z {r : Int32} (K : Cx p s m meth c G cc own nL (some .boolean) args A) (hz : r = 0 ∨ r = 1) (hP : va_P G.1 vwCl w' H) (hD : va_D A w') (hS : va_S A s.heap H locs) (hdg : decode cc pc = .ok (.ireturn, 1)) :
    W p l e R s m args below meth c H locs 0 0 (QQ below G args s w' (some (.int r)) A) (F0 m pc ls [.int r]) := by
  obtain ⟨hx, hb, hr, -, -, -, hlocks, -, -⟩ := K
  exact W.zret hx hb hr (nz_bool hz) (fun t ht _ => ⟨⟨rfl, by rw [ht]; exact hP, hD⟩, hS.F ht⟩) hS.2.2 hdg hlocks
theorem rt_l {r : Int64} (K : Cx p s m meth c G cc own nL (some .long) args A) (hP : va_P G.1 vwCl w' H) (hD : va_D A w') (hS : va_S A s.heap H locs) (hdg : decode cc pc = .ok (.lreturn, 1)) :
    W p l e R s m args below meth c H locs 0 0 (QQ below G args s w' (some (.long r)) A) (F0 m pc ls [.long r]) := by
  obtain ⟨hx, hb, hr, -, -, -, hlocks, -, -⟩ := K
  exact W.lret hx hb hr (fun t ht _ => ⟨⟨rfl, by rw [ht]; exact hP, hD⟩, hS.F ht⟩) hS.2.2 hdg hlocks
theorem rt_v (K : Cx p s m meth c G cc own nL none args A) (hP : va_P G.1 vwCl w' H) (hD : va_D A w') (hS : va_S A s.heap H locs) (hdg : decode cc pc = .ok (.return_, 1)) :
    W p l e R s m args below meth c H locs 0 0 (QQ below G args s w' none A) (F0 m pc ls []) := by
  obtain ⟨hx, hb, hr, -, -, -, hlocks, -, -⟩ := K
  exact W.vret hx hb hr (fun t ht _ => ⟨⟨rfl, by rw [ht]; exact hP, hD⟩, hS.F ht⟩) hS.2.2 hdg hlocks
theorem va_callg {mc ms : Nat} {a : Array Value} {A0 A1 : Nat → Prop} {free : Addr → Prop} {st0 : List Value} (hr : va_Run p l e R s m args below meth c H locs cells slots mc ms (F0 m pc ls st0) rest (QC G w1 rv A1 a) free) (hS : va_S A0 H0 H locs) (hA : ∀ q, q < H.size → A1 q → A0 q) (hf : ∀ q, free q → A0 q)
    (kk : ∀ (H1 : Heap) (locs1 : List Loc), va_P G.1 vwCl w1 H1 → va_D A1 w1 → (∀ q : Nat, q < H.size → ¬ A1 q → H1[q]? = H[q]?) → va_S A0 H0 H1 locs1 → W p l e R s m args below meth c H1 locs1 (cells + mc) (slots + ms) Q (F0 m (pc + 3) ls (rv.toList ++ rest))) : W p l e R s m args below meth c H locs cells slots Q (F0 m pc ls st0) := by
  intro T hT X
  obtain ⟨v, st₀, t, T', L, h0, X', hL, e1, e2, ⟨⟨hv, hp, hd⟩, hz, hk⟩, st⟩ := hr T hT X
  cases hv
  rw [h0] at hz hk
  obtain ⟨t2, a1, b1⟩ := kk T'.heap (locs ++ L) (by rw [e1]; exact hp) hd (fun q h1 h2 => by rw [e1]; exact hk q h1 h2)
    ⟨Nat.le_trans hS.1 (by rw [e1]; exact hz), fun q h1 h2 => by rw [e1, hk q (Nat.lt_of_lt_of_le h1 hS.1) (fun z => h2 (hA q (Nat.lt_of_lt_of_le h1 hS.1) z))]; exact hS.2.1 q h1 h2, fun q hq => by
      rcases List.mem_append.mp hq with h | h
      · exact hS.2.2 q h
      · exact hf _ (hL q h)⟩ T' rfl X'
  exact ⟨t2, st t2 a1, b1⟩
theorem fr_free {is : List Nat} (hs : is.map (fun i => ws[i]?) = w.map some) (hD : va_D A ws) (hS : va_S A s.heap H locs) (hA : ∀ q : Nat, s.heap.size ≤ q → A q) : ∀ q, va_A w H.size q → A q := va_free hD hS hA is hs
theorem fr_pre {is : List Nat} (K : Cx p s m meth c G cc own nL ret args A) (hP : va_P G.1 vwCl ws H) (hD : va_D A ws) (hS : va_S A s.heap H locs) (hn : va_nd is = true) (hs : is.map (fun i => ws[i]?) = w.map some) : PreS s H (Cp G av w H.size) av :=
  ⟨Cp.blind, fun U hU hW => ⟨rfl, by rw [hU], by rw [hU]; exact fr_P hP hs, K.2.2.2.2.2.2.2.2.go hS hU hW (fr_free hs hD hS K.2.2.2.2.2.2.2.1), fr_D hD hn hs⟩⟩
abbrev CallD (y : MethodName) (n : Nat) : Prop := y.cls ≠ "java/lang/invoke/MethodHandle" ∧ y.cls ≠ "java/lang/invoke/VarHandle" ∧ (parseMethodDescriptor y.desc).map (fun d => d.parameters.length) = some n
abbrev CallR (R : Room) (d maxL : Nat) : Prop := d + 1 ≤ R.frames ∧ 8 + (maxL + 11) + 40 * d ≤ R.locals
/-- the frame behind a call -/
theorem fr_go {is : List Nat} {a : Array Value} {st0 : List Value} (K : Cx p s m meth c G cc own nL ret args A) (hP : va_P G.1 vwCl ws H) (hD : va_D A ws) (hS : va_S A s.heap H locs) (hn : va_nd is = true) (hs : is.map (fun i => ws[i]?) = w.map some) (had : w1.map (fun q => q.1) = w.map (fun q => q.1))
    (hr : va_Run p l e R s m args below meth c H locs cells slots 0 0 (F0 m pc ls st0) rest (QC G w1 rv (va_A w H.size) a) (va_A w H.size))
    (kk : ∀ (H1 : Heap) (locs1 : List Loc), va_P G.1 vwCl (putAll ws is w1) H1 → va_D A (putAll ws is w1) → va_S A s.heap H1 locs1 → W p l e R s m args below meth c H1 locs1 cells slots Q (F0 m (pc + 3) ls (rv.toList ++ rest))) : W p l e R s m args below meth c H locs cells slots Q (F0 m pc ls st0) := by
  have hF := fr_free hs hD hS K.2.2.2.2.2.2.2.1
  refine va_callg hr hS (fun q _ h => hF q h) hF (fun H1 locs1 hP1 _ hk hS1 => ?_)
  obtain ⟨a1, a2⟩ := fr_put hP hD hn hs had hk hP1
  exact kk H1 locs1 a1 a2 hS1
theorem cl_S (K : Cx p s m meth c G cc own nL ret args A) (hM : CC l G y cc' maxL ret' d av w w1 rv) (hcode : Cond.code y cc' maxL ret' ∈ TB) (hini : Cond.initialized y.cls ∈ TB) (hst : Cond.static y ∈ TB) (hlink : Cond.methodLink own index y ∈ TB) (hd : CallD y n) (hR : CallR R d maxL)
    (hP : va_P G.1 vwCl ws H) (hD : va_D A ws) (hS : va_S A s.heap H locs) (is : List Nat) (hn : va_nd is = true) (hs : is.map (fun i => ws[i]?) = w.map some) (had : w1.map (fun q => q.1) = w.map (fun q => q.1))
    (hlen : av.length = n) (hsize : ls.size = nL) (hW : (rest.map fun v => v.category).sum ≤ 8) (hf : cells ≤ R.cells ∧ slots ≤ R.slots) (hdg : decode cc pc = .ok (.invokestatic index, 3))
    (kk : ∀ (H1 : Heap) (locs1 : List Loc), va_P G.1 vwCl (putAll ws is w1) H1 → va_D A (putAll ws is w1) → va_S A s.heap H1 locs1 → W p l e R s m args below meth c H1 locs1 cells slots Q (F0 m (pc + 3) ls (rv.toList ++ rest))) : W p l e R s m args below meth c H locs cells slots Q (F0 m pc ls (av.reverse ++ rest)) := by
  have K0 := K
  obtain ⟨hx, hb, hr, hml, hts, hown, hlocks, hA, hG⟩ := K
  exact fr_go K0 hP hD hS hn hs had (va_runS ⟨hx, hb, hml, hown, hts⟩ (hM H.size) ⟨callB_of n hts (tb_goodIn hcode) rfl rfl rfl (hts _ hini) (hts _ hlink) hd hR, hts _ hst⟩ (fr_pre K0 hP hD hS hn hs) rfl hlen hsize rfl (lv_room hW) hdg hf) kk
theorem cl_SN {host : String} (K : Cx p s m meth c G cc own nL ret args A) (hM : CC l G y cc' maxL ret' d av w w1 rv) (hcode : Cond.code y cc' maxL ret' ∈ TB) (hini : Cond.initialized y.cls ∈ TB) (hst : Cond.static y ∈ TB) (hlink : Cond.methodLinkNest own index y host ∈ TN) (hd : CallD y n) (hR : CallR R d maxL)
    (hP : va_P G.1 vwCl ws H) (hD : va_D A ws) (hS : va_S A s.heap H locs) (is : List Nat) (hn : va_nd is = true) (hs : is.map (fun i => ws[i]?) = w.map some) (had : w1.map (fun q => q.1) = w.map (fun q => q.1))
    (hlen : av.length = n) (hsize : ls.size = nL) (hW : (rest.map fun v => v.category).sum ≤ 8) (hf : cells ≤ R.cells ∧ slots ≤ R.slots) (hdg : decode cc pc = .ok (.invokestatic index, 3))
    (kk : ∀ (H1 : Heap) (locs1 : List Loc), va_P G.1 vwCl (putAll ws is w1) H1 → va_D A (putAll ws is w1) → va_S A s.heap H1 locs1 → W p l e R s m args below meth c H1 locs1 cells slots Q (F0 m (pc + 3) ls (rv.toList ++ rest))) : W p l e R s m args below meth c H locs cells slots Q (F0 m pc ls (av.reverse ++ rest)) := by
  have K0 := K
  obtain ⟨hx, hb, hr, hml, hts, hown, hlocks, hA, hG⟩ := K
  exact fr_go K0 hP hD hS hn hs had (va_runSN ⟨hx, hb, hml, hown, hts⟩ (hM H.size) ⟨va_cnB n hts (tb_goodIn hcode) rfl rfl rfl (hG.2.1 _ hlink) (hts _ hini) hd hR, hts _ hst, trivial⟩ (fr_pre K0 hP hD hS hn hs) rfl hlen hsize rfl (lv_room hW) hdg hf) kk
theorem cl_V {b q0 ci : Nat} {q : vw_C} {fs As : List Value} (K : Cx p s m meth c G cc own nL ret args A) (hM : CC l G y cc' maxL ret' d (.ref b :: As) w w1 rv) (hcode : Cond.code y cc' maxL ret' ∈ TB) (hini : Cond.initialized y.cls ∈ TB) (hin : Cond.instanceMethod y ∈ TB) (hsel : Cond.selects C y y ∈ TB) (hlink : Cond.methodLink own index y ∈ TB) (hd : CallD y n) (hR : CallR R d maxL)
    (hP : va_P G.1 vwCl ws H) (hD : va_D A ws) (hS : va_S A s.heap H locs) (is : List Nat) (hn : va_nd is = true) (hs : is.map (fun i => ws[i]?) = w.map some) (had : w1.map (fun q => q.1) = w.map (fun q => q.1))
    (hq : vwCl[ci]? = some q) (hC : q.1 = C) (he : ws[q0]? = some (b, .inr (ci, fs)))
    (hlen : As.length = n) (hsize : ls.size = nL) (hW : (rest.map fun v => v.category).sum ≤ 8) (hf : cells ≤ R.cells ∧ slots ≤ R.slots) (hdg : decode cc pc = .ok (.invokevirtual index, 3))
    (kk : ∀ (H1 : Heap) (locs1 : List Loc), va_P G.1 vwCl (putAll ws is w1) H1 → va_D A (putAll ws is w1) → va_S A s.heap H1 locs1 → W p l e R s m args below meth c H1 locs1 cells slots Q (F0 m (pc + 3) ls (rv.toList ++ rest))) : W p l e R s m args below meth c H locs cells slots Q (F0 m pc ls (As.reverse ++ .ref b :: rest)) := by
  have K0 := K
  obtain ⟨hx, hb, hr, hml, hts, hown, hlocks, hA, hG⟩ := K
  subst hC
  have hpre := fr_pre (av := .ref b :: As) K0 hP hD hS hn hs
  exact fr_go K0 hP hD hS hn hs had (va_runV ⟨hx, hb, hml, hown, hts⟩ (hM H.size) ⟨callB_of n hts (tb_goodIn hcode) rfl rfl rfl (hts _ hini) (hts _ hlink) hd hR, hts _ hin, hts _ hsel⟩ ⟨hpre.1, va_recv hG.1 hP hq he, hpre.2⟩ rfl hlen hsize rfl (lv_room hW) hdg hf) kk
end BASE
end
section
/-! the frame by segments: a world is a list of segments, each a list of cells -/
def putS {α : Type} (ws : List α) : List Nat → List α → List α
  | i :: is, c :: cs => putS (ws.set i c) is cs
  | _, _ => ws
theorem putS_out {α : Type} : ∀ (is : List Nat) (cs ws : List α) (k : Nat), k ∉ is → (putS ws is cs)[k]? = ws[k]?
  | [], cs, _, _, _ => by cases cs <;> rfl
  | _ :: _, [], _, _, _ => rfl
  | i :: is, c :: cs, ws, k, h => by
    rw [putS, putS_out is cs _ k (fun q => h (List.mem_cons_of_mem _ q))]
    exact List.getElem?_set_ne (fun e => h (by rw [e]; exact List.mem_cons_self))
theorem putS_in {α : Type} : ∀ (is : List Nat) (cs ws : List α) (j k : Nat), va_nd is = true → is.length = cs.length → (∀ i ∈ is, i < ws.length) → is[j]? = some k → (putS ws is cs)[k]? = cs[j]?
  | [], _, _, j, k, _, _, _, h => by simp at h
  | _ :: _, [], _, _, _, _, hl, _, _ => by simp at hl
  | i :: is, c :: cs, ws, j, k, hn, hl, hb, h => by
    rw [putS]
    simp only [va_nd, Bool.and_eq_true, decide_eq_true_eq] at hn
    cases j with
    | zero =>
      rw [List.getElem?_cons_zero] at h
      cases h
      rw [putS_out is cs _ _ hn.1, List.getElem?_set_self (hb _ List.mem_cons_self), List.getElem?_cons_zero]
    | succ j =>
      rw [List.getElem?_cons_succ] at h ⊢
      exact putS_in is cs _ j k hn.2 (by simpa using hl) (fun q hq => by rw [List.length_set]; exact hb q (List.mem_cons_of_mem _ hq)) h
theorem ps_at {α : Type} {ws w : List α} {is : List Nat} (hs : is.map (fun i => ws[i]?) = w.map some) {k : Nat} {q : α} (hq : w[k]? = some q) : ∃ i, is[k]? = some i ∧ ws[i]? = some q := by
  have h1 : (is.map (fun i => ws[i]?))[k]? = some (some q) := by rw [hs, List.getElem?_map, hq]; rfl
  rw [List.getElem?_map] at h1
  cases hi : is[k]? with
  | none => rw [hi] at h1; cases h1
  | some i => rw [hi] at h1; exact ⟨i, rfl, Option.some.inj h1⟩
theorem ps_to {α : Type} {ws w : List α} {is : List Nat} (hs : is.map (fun i => ws[i]?) = w.map some) {k i : Nat} (hi : is[k]? = some i) : ∃ q, w[k]? = some q ∧ ws[i]? = some q := by
  have h1 : (is.map (fun i => ws[i]?))[k]? = some (ws[i]?) := by rw [List.getElem?_map, hi]; rfl
  rw [hs, List.getElem?_map] at h1
  cases hw : w[k]? with
  | none => rw [hw] at h1; cases h1
  | some q => rw [hw] at h1; exact ⟨q, rfl, (Option.some.inj h1).symm⟩
theorem P_iff {D : va_G} {cl : List vw_C} {ws : va_W} {H : Heap} : va_P D cl ws H ↔ ∀ q ∈ ws, va_at D cl q H :=
  ⟨fun h q hq => by
    obtain ⟨k, hk⟩ := List.getElem?_of_mem hq
    exact h k q hk, fun h k q hq => h q (List.mem_of_getElem? hq)⟩
abbrev apart (p q : Nat × va_E) : Prop := p.1 ≠ q.1
theorem D_iff {A : Nat → Prop} {ws : va_W} : va_D A ws ↔ ws.Pairwise apart ∧ ∀ q ∈ ws, A q.1 := by
  constructor
  · intro h
    refine ⟨List.pairwise_iff_getElem.mpr (fun i j hi hj hij e => ?_), fun q hq => ?_⟩
    · have := h.1 i j _ _ (List.getElem?_eq_getElem hi) (List.getElem?_eq_getElem hj) e
      omega
    · obtain ⟨k, hk⟩ := List.getElem?_of_mem hq
      exact h.2 k q hk
  · intro h
    refine ⟨fun i j p q hi hj e => ?_, fun k q hq => h.2 q (List.mem_of_getElem? hq)⟩
    obtain ⟨a1, b1⟩ := List.getElem?_eq_some_iff.mp hi
    obtain ⟨a2, b2⟩ := List.getElem?_eq_some_iff.mp hj
    have hp := List.pairwise_iff_getElem.mp h.1
    rcases Nat.lt_trichotomy i j with g | g | g
    · exact absurd (by rw [b1, b2]; exact e) (hp i j a1 a2 g)
    · exact g
    · exact absurd (by rw [b1, b2]; exact e.symm) (hp j i a2 a1 g)
theorem fs_sep {A : Nat → Prop} {Ws : List va_W} (hD : va_D A (List.flatten Ws)) {i j : Nat} {a b : va_W} (hi : Ws[i]? = some a) (hj : Ws[j]? = some b) (hij : i ≠ j) {p q : Nat × va_E} (hp : p ∈ a) (hq : q ∈ b) : p.1 ≠ q.1 := by
  have h := (List.pairwise_flatten.mp (D_iff.mp hD).1).2
  obtain ⟨a1, b1⟩ := List.getElem?_eq_some_iff.mp hi
  obtain ⟨a2, b2⟩ := List.getElem?_eq_some_iff.mp hj
  have hw := List.pairwise_iff_getElem.mp h
  rcases Nat.lt_or_gt_of_ne hij with g | g
  · exact hw i j a1 a2 g p (by rw [b1]; exact hp) q (by rw [b2]; exact hq)
  · exact fun e => hw j i a2 a1 g q (by rw [b2]; exact hq) p (by rw [b1]; exact hp) e.symm
theorem fs_P {D : va_G} {cl : List vw_C} {Ws w : List va_W} {H : Heap} (hP : va_P D cl (List.flatten Ws) H) {is : List Nat} (hs : is.map (fun i => Ws[i]?) = w.map some) : va_P D cl (List.flatten w) H := by
  rw [P_iff] at hP ⊢
  intro q hq
  obtain ⟨sg, h1, h2⟩ := List.mem_flatten.mp hq
  obtain ⟨k, hk⟩ := List.getElem?_of_mem h1
  obtain ⟨i, -, h⟩ := ps_at hs hk
  exact hP q (List.mem_flatten.mpr ⟨sg, List.mem_of_getElem? h, h2⟩)
theorem fs_D {A : Nat → Prop} {Ws w : List va_W} (hD : va_D A (List.flatten Ws)) {is : List Nat} (hn : va_nd is = true) (hs : is.map (fun i => Ws[i]?) = w.map some) : va_D (fun _ => True) (List.flatten w) := by
  refine D_iff.mpr ⟨List.pairwise_flatten.mpr ⟨fun sg h1 => ?_, List.pairwise_iff_getElem.mpr (fun i j hi hj hij p hp q hq => ?_)⟩, fun _ _ => trivial⟩
  · obtain ⟨k, hk⟩ := List.getElem?_of_mem h1
    obtain ⟨i, -, h⟩ := ps_at hs hk
    exact (List.pairwise_flatten.mp (D_iff.mp hD).1).1 sg (List.mem_of_getElem? h)
  · obtain ⟨a, ha, h1⟩ := ps_at hs (List.getElem?_eq_getElem hi)
    obtain ⟨b, hb, h2⟩ := ps_at hs (List.getElem?_eq_getElem hj)
    exact fs_sep hD h1 h2 (fun e => by
      subst e
      have := va_nd_inj is hn i j a ha hb
      omega) hp hq
theorem fs_put {A : Nat → Prop} {D : va_G} {cl : List vw_C} {Ws wc w1 : List va_W} {H H1 : Heap} (hP : va_P D cl (List.flatten Ws) H) (hD : va_D A (List.flatten Ws)) {is : List Nat} (hn : va_nd is = true) (hs : is.map (fun i => Ws[i]?) = wc.map some) (had : w1.map (fun sg => sg.map (fun q => q.1)) = wc.map (fun sg => sg.map (fun q => q.1)))
    (hk : ∀ q : Nat, q < H.size → ¬ va_A (List.flatten wc) H.size q → H1[q]? = H[q]?) (hP1 : va_P D cl (List.flatten w1) H1) : va_P D cl (List.flatten (putS Ws is w1)) H1 ∧ va_D A (List.flatten (putS Ws is w1)) := by
  have hl : is.length = w1.length := by
    have e1 := congrArg List.length hs
    have e2 := congrArg List.length had
    simp only [List.length_map] at e1 e2
    omega
  have hb : ∀ i ∈ is, i < Ws.length := fun i hi => by
    obtain ⟨k, hk⟩ := List.getElem?_of_mem hi
    obtain ⟨q, -, h⟩ := ps_to hs hk
    exact (List.getElem?_eq_some_iff.mp h).1
  have key : ∀ (k : Nat) (sg : va_W), (putS Ws is w1)[k]? = some sg → (∃ j, is[j]? = some k ∧ w1[j]? = some sg) ∨ (k ∉ is ∧ Ws[k]? = some sg) := fun k q h => by
    by_cases hki : k ∈ is
    · obtain ⟨j, hj⟩ := List.getElem?_of_mem hki
      rw [putS_in is w1 Ws j k hn hl hb hj] at h
      exact Or.inl ⟨j, hj, h⟩
    · rw [putS_out is w1 Ws k hki] at h
      exact Or.inr ⟨hki, h⟩
  have hmap : (putS Ws is w1).map (fun sg => sg.map (fun q => q.1)) = Ws.map (fun sg => sg.map (fun q => q.1)) := by
    apply List.ext_getElem?
    intro k
    rw [List.getElem?_map, List.getElem?_map]
    by_cases hki : k ∈ is
    · obtain ⟨j, hj⟩ := List.getElem?_of_mem hki
      rw [putS_in is w1 Ws j k hn hl hb hj]
      obtain ⟨q, h1, h2⟩ := ps_to hs hj
      rw [h2, ← h1, ← List.getElem?_map, ← List.getElem?_map, had]
    · rw [putS_out is w1 Ws k hki]
  have hadd : (List.flatten (putS Ws is w1)).map (fun q => q.1) = (List.flatten Ws).map (fun q => q.1) := by
    rw [List.map_flatten, List.map_flatten, hmap]
  constructor
  · rw [P_iff]
    intro q hq
    obtain ⟨sg, h1, h2⟩ := List.mem_flatten.mp hq
    obtain ⟨k, hk1⟩ := List.getElem?_of_mem h1
    rcases key k sg hk1 with ⟨j, -, hj⟩ | ⟨hki, hj⟩
    · exact P_iff.mp hP1 q (List.mem_flatten.mpr ⟨sg, List.mem_of_getElem? hj, h2⟩)
    · have hq0 := P_iff.mp hP q (List.mem_flatten.mpr ⟨sg, List.mem_of_getElem? hj, h2⟩)
      refine hq0.kept (hk q.1 hq0.lt (fun h => ?_))
      rcases h with ⟨k2, e, h⟩ | h
      · obtain ⟨sg2, g1, g2⟩ := List.mem_flatten.mp (List.mem_of_getElem? h)
        obtain ⟨j2, hj2⟩ := List.getElem?_of_mem g1
        obtain ⟨i, hi, h4⟩ := ps_at hs hj2
        exact fs_sep hD hj h4 (fun e => hki (by rw [e]; exact List.mem_of_getElem? hi)) h2 g2 rfl
      · exact absurd hq0.lt (by omega)
  · have h0 := D_iff.mp hD
    refine D_iff.mpr ⟨?_, fun q hq => ?_⟩
    · have h1 : ((List.flatten (putS Ws is w1)).map (fun q => q.1)).Pairwise (· ≠ ·) := by
        rw [hadd]
        exact List.pairwise_map.mpr h0.1
      exact (List.pairwise_map (R := (· ≠ ·)) (f := fun q : Nat × va_E => q.1)).mp h1
    · have h1 : q.1 ∈ (List.flatten Ws).map (fun q => q.1) := by
        rw [← hadd]
        exact List.mem_map.mpr ⟨q, hq, rfl⟩
      obtain ⟨q', h2, h3⟩ := List.mem_map.mp h1
      rw [← h3]
      exact h0.2 q' h2
section FRAME
variable {p : Program} {l : Launch} {e : Env} {R : Room} {s : State} {m : MethodId} {args : Array Value} {below : List Frame} {meth : Method} {c : Code} {H : Heap} {locs : List Loc} {cells slots : Nat} {Q : State → Prop}
variable {G : GP} {cc cc' : ByteArray} {own C : String} {nL maxL n index d pc : Nat} {ret ret' : Option FieldType} {A : Nat → Prop} {ls : Array Slot} {rest : List Value} {w w' w1 Ws : List va_W} {rv : Option Value} {y : MethodName} {av : List Value} {H0 : Heap}
theorem fs_free {is : List Nat} (hs : is.map (fun i => Ws[i]?) = w.map some) (hD : va_D A (List.flatten Ws)) (hS : va_S A s.heap H locs) (hA : ∀ q : Nat, s.heap.size ≤ q → A q) : ∀ q, va_A (List.flatten w) H.size q → A q := by
  intro q h
  rcases h with ⟨k, e, h⟩ | h
  · obtain ⟨sg, g1, g2⟩ := List.mem_flatten.mp (List.mem_of_getElem? h)
    obtain ⟨j, hj⟩ := List.getElem?_of_mem g1
    obtain ⟨i, -, h4⟩ := ps_at hs hj
    exact (D_iff.mp hD).2 (q, e) (List.mem_flatten.mpr ⟨sg, List.mem_of_getElem? h4, g2⟩)
  · exact hA q (Nat.le_trans hS.1 h)
theorem fs_pre {is : List Nat} (K : Cx p s m meth c G cc own nL ret args A) (hP : va_P G.1 vwCl (List.flatten Ws) H) (hD : va_D A (List.flatten Ws)) (hS : va_S A s.heap H locs) (hn : va_nd is = true) (hs : is.map (fun i => Ws[i]?) = w.map some) : PreS s H (Cp G av (List.flatten w) H.size) av :=
  ⟨Cp.blind, fun U hU hW => ⟨rfl, by rw [hU], by rw [hU]; exact fs_P hP hs, K.2.2.2.2.2.2.2.2.go hS hU hW (fs_free hs hD hS K.2.2.2.2.2.2.2.1), fs_D hD hn hs⟩⟩
theorem fs_go {is : List Nat} {a : Array Value} {st0 : List Value} (K : Cx p s m meth c G cc own nL ret args A) (hP : va_P G.1 vwCl (List.flatten Ws) H) (hD : va_D A (List.flatten Ws)) (hS : va_S A s.heap H locs) (hn : va_nd is = true) (hs : is.map (fun i => Ws[i]?) = w.map some) (had : w1.map (fun sg => sg.map (fun q => q.1)) = w.map (fun sg => sg.map (fun q => q.1)))
    (hr : va_Run p l e R s m args below meth c H locs cells slots 0 0 (F0 m pc ls st0) rest (QC G (List.flatten w1) rv (va_A (List.flatten w) H.size) a) (va_A (List.flatten w) H.size))
    (kk : ∀ (H1 : Heap) (locs1 : List Loc), va_P G.1 vwCl (List.flatten (putS Ws is w1)) H1 → va_D A (List.flatten (putS Ws is w1)) → va_S A s.heap H1 locs1 → W p l e R s m args below meth c H1 locs1 cells slots Q (F0 m (pc + 3) ls (rv.toList ++ rest))) : W p l e R s m args below meth c H locs cells slots Q (F0 m pc ls st0) := by
  have hF := fs_free hs hD hS K.2.2.2.2.2.2.2.1
  refine va_callg hr hS (fun q _ h => hF q h) hF (fun H1 locs1 hP1 _ hk hS1 => ?_)
  obtain ⟨a1, a2⟩ := fs_put hP hD hn hs had hk hP1
  exact kk H1 locs1 a1 a2 hS1
theorem sl_S (K : Cx p s m meth c G cc own nL ret args A) (hM : CC l G y cc' maxL ret' d av (List.flatten w) (List.flatten w1) rv) (hcode : Cond.code y cc' maxL ret' ∈ TB) (hini : Cond.initialized y.cls ∈ TB) (hst : Cond.static y ∈ TB) (hlink : Cond.methodLink own index y ∈ TB) (hd : CallD y n) (hR : CallR R d maxL)
    (hP : va_P G.1 vwCl (List.flatten Ws) H) (hD : va_D A (List.flatten Ws)) (hS : va_S A s.heap H locs) (is : List Nat) (hn : va_nd is = true) (hs : is.map (fun i => Ws[i]?) = w.map some) (had : w1.map (fun sg => sg.map (fun q => q.1)) = w.map (fun sg => sg.map (fun q => q.1)))
    (hlen : av.length = n) (hsize : ls.size = nL) (hW : (rest.map fun v => v.category).sum ≤ 8) (hf : cells ≤ R.cells ∧ slots ≤ R.slots) (hdg : decode cc pc = .ok (.invokestatic index, 3))
    (kk : ∀ (H1 : Heap) (locs1 : List Loc), va_P G.1 vwCl (List.flatten (putS Ws is w1)) H1 → va_D A (List.flatten (putS Ws is w1)) → va_S A s.heap H1 locs1 → W p l e R s m args below meth c H1 locs1 cells slots Q (F0 m (pc + 3) ls (rv.toList ++ rest))) : W p l e R s m args below meth c H locs cells slots Q (F0 m pc ls (av.reverse ++ rest)) := by
  have K0 := K
  obtain ⟨hx, hb, hr, hml, hts, hown, hlocks, hA, hG⟩ := K
  exact fs_go K0 hP hD hS hn hs had (va_runS ⟨hx, hb, hml, hown, hts⟩ (hM H.size) ⟨callB_of n hts (tb_goodIn hcode) rfl rfl rfl (hts _ hini) (hts _ hlink) hd hR, hts _ hst⟩ (fs_pre K0 hP hD hS hn hs) rfl hlen hsize rfl (lv_room hW) hdg hf) kk
theorem sl_SN {host : String} (K : Cx p s m meth c G cc own nL ret args A) (hM : CC l G y cc' maxL ret' d av (List.flatten w) (List.flatten w1) rv) (hcode : Cond.code y cc' maxL ret' ∈ TB) (hini : Cond.initialized y.cls ∈ TB) (hst : Cond.static y ∈ TB) (hlink : Cond.methodLinkNest own index y host ∈ TN) (hd : CallD y n) (hR : CallR R d maxL)
    (hP : va_P G.1 vwCl (List.flatten Ws) H) (hD : va_D A (List.flatten Ws)) (hS : va_S A s.heap H locs) (is : List Nat) (hn : va_nd is = true) (hs : is.map (fun i => Ws[i]?) = w.map some) (had : w1.map (fun sg => sg.map (fun q => q.1)) = w.map (fun sg => sg.map (fun q => q.1)))
    (hlen : av.length = n) (hsize : ls.size = nL) (hW : (rest.map fun v => v.category).sum ≤ 8) (hf : cells ≤ R.cells ∧ slots ≤ R.slots) (hdg : decode cc pc = .ok (.invokestatic index, 3))
    (kk : ∀ (H1 : Heap) (locs1 : List Loc), va_P G.1 vwCl (List.flatten (putS Ws is w1)) H1 → va_D A (List.flatten (putS Ws is w1)) → va_S A s.heap H1 locs1 → W p l e R s m args below meth c H1 locs1 cells slots Q (F0 m (pc + 3) ls (rv.toList ++ rest))) : W p l e R s m args below meth c H locs cells slots Q (F0 m pc ls (av.reverse ++ rest)) := by
  have K0 := K
  obtain ⟨hx, hb, hr, hml, hts, hown, hlocks, hA, hG⟩ := K
  exact fs_go K0 hP hD hS hn hs had (va_runSN ⟨hx, hb, hml, hown, hts⟩ (hM H.size) ⟨va_cnB n hts (tb_goodIn hcode) rfl rfl rfl (hG.2.1 _ hlink) (hts _ hini) hd hR, hts _ hst, trivial⟩ (fs_pre K0 hP hD hS hn hs) rfl hlen hsize rfl (lv_room hW) hdg hf) kk
/-- a virtual call on a receiver that is known otherwise -/
theorem sl_R {b : Nat} {As : List Value} (K : Cx p s m meth c G cc own nL ret args A) (hM : CC l G y cc' maxL ret' d (.ref b :: As) (List.flatten w) (List.flatten w1) rv) (hcode : Cond.code y cc' maxL ret' ∈ TB) (hini : Cond.initialized y.cls ∈ TB) (hin : Cond.instanceMethod y ∈ TB) (hsel : Cond.selects C y y ∈ TB) (hlink : Cond.methodLink own index y ∈ TB) (hd : CallD y n) (hR : CallR R d maxL)
    (hP : va_P G.1 vwCl (List.flatten Ws) H) (hD : va_D A (List.flatten Ws)) (hS : va_S A s.heap H locs) (is : List Nat) (hn : va_nd is = true) (hs : is.map (fun i => Ws[i]?) = w.map some) (had : w1.map (fun sg => sg.map (fun q => q.1)) = w.map (fun sg => sg.map (fun q => q.1)))
    (hrec : ∃ cellB : Cell, H[b]? = some cellB ∧ cellB.vm.isStatics = false ∧ s.vm.findClass C = some cellB.cls)
    (hlen : As.length = n) (hsize : ls.size = nL) (hW : (rest.map fun v => v.category).sum ≤ 8) (hf : cells ≤ R.cells ∧ slots ≤ R.slots) (hdg : decode cc pc = .ok (.invokevirtual index, 3))
    (kk : ∀ (H1 : Heap) (locs1 : List Loc), va_P G.1 vwCl (List.flatten (putS Ws is w1)) H1 → va_D A (List.flatten (putS Ws is w1)) → va_S A s.heap H1 locs1 → W p l e R s m args below meth c H1 locs1 cells slots Q (F0 m (pc + 3) ls (rv.toList ++ rest))) : W p l e R s m args below meth c H locs cells slots Q (F0 m pc ls (As.reverse ++ .ref b :: rest)) := by
  have K0 := K
  obtain ⟨hx, hb, hr, hml, hts, hown, hlocks, hA, hG⟩ := K
  have hpre := fs_pre (av := .ref b :: As) K0 hP hD hS hn hs
  exact fs_go K0 hP hD hS hn hs had (va_runV ⟨hx, hb, hml, hown, hts⟩ (hM H.size) ⟨callB_of n hts (tb_goodIn hcode) rfl rfl rfl (hts _ hini) (hts _ hlink) hd hR, hts _ hin, hts _ hsel⟩ ⟨hpre.1, hrec, hpre.2⟩ rfl hlen hsize rfl (lv_room hW) hdg hf) kk
theorem sl_V {b q0 ci : Nat} {q : vw_C} {fs As : List Value} (K : Cx p s m meth c G cc own nL ret args A) (hM : CC l G y cc' maxL ret' d (.ref b :: As) (List.flatten w) (List.flatten w1) rv) (hcode : Cond.code y cc' maxL ret' ∈ TB) (hini : Cond.initialized y.cls ∈ TB) (hin : Cond.instanceMethod y ∈ TB) (hsel : Cond.selects C y y ∈ TB) (hlink : Cond.methodLink own index y ∈ TB) (hd : CallD y n) (hR : CallR R d maxL)
    (hP : va_P G.1 vwCl (List.flatten Ws) H) (hD : va_D A (List.flatten Ws)) (hS : va_S A s.heap H locs) (is : List Nat) (hn : va_nd is = true) (hs : is.map (fun i => Ws[i]?) = w.map some) (had : w1.map (fun sg => sg.map (fun q => q.1)) = w.map (fun sg => sg.map (fun q => q.1)))
    (hq : vwCl[ci]? = some q) (hC : q.1 = C) (he : (List.flatten Ws)[q0]? = some (b, .inr (ci, fs)))
    (hlen : As.length = n) (hsize : ls.size = nL) (hW : (rest.map fun v => v.category).sum ≤ 8) (hf : cells ≤ R.cells ∧ slots ≤ R.slots) (hdg : decode cc pc = .ok (.invokevirtual index, 3))
    (kk : ∀ (H1 : Heap) (locs1 : List Loc), va_P G.1 vwCl (List.flatten (putS Ws is w1)) H1 → va_D A (List.flatten (putS Ws is w1)) → va_S A s.heap H1 locs1 → W p l e R s m args below meth c H1 locs1 cells slots Q (F0 m (pc + 3) ls (rv.toList ++ rest))) : W p l e R s m args below meth c H locs cells slots Q (F0 m pc ls (As.reverse ++ .ref b :: rest)) := by
  subst hC
  exact sl_R K hM hcode hini hin hsel hlink hd hR hP hD hS is hn hs had (va_recv K.2.2.2.2.2.2.2.2.1 hP hq he) hlen hsize hW hf hdg kk
end FRAME
end
section
/-! the cells of the objects, by their addresses and their states -/
def wA (G : GP) (a : Nat → Nat) (σ : ST) : va_W := [(a 0, .inr (0, [.ref (a 1), .ref (a 2), .ref (a 3), .ref (a 4), .ref (a 5), .int (σ.1 5), .int (σ.1 6)])), (a 1, .inl (G.2.1 0, 16, .inl (σ.2.1 0))), (a 2, .inl (G.2.1 0, 16, .inl (σ.2.1 1))), (a 3, .inl (G.2.1 0, 16, .inl (σ.2.1 2))), (a 4, .inl (G.2.1 0, 16, .inl (σ.2.1 3))), (a 5, .inl (G.2.1 0, 16, .inl (σ.2.1 4)))]
def wB (G : GP) (a : Nat → Nat) (σ : ST) : va_W := [(a 0, .inr (1, [.ref (a 1), .ref (a 2), .ref (a 3), .int (σ.1 3)])), (a 1, .inl (G.2.1 0, 8, .inl (σ.2.1 0))), (a 2, .inl (G.2.1 0, 8, .inl (σ.2.1 1))), (a 3, .inl (G.2.1 0, 8, .inl (σ.2.1 2)))]
def wP (G : GP) (a : Nat → Nat) (σ : ST) : va_W := [(a 0, .inr (3, [.ref (a 1), .ref (a 2), .ref (a 3), .ref (a 4), .ref (a 5), .ref (a 6), .ref (a 7), .long (σ.2.2.1 7)])), (a 1, .inl (G.2.1 1, 10, .inr (.inl (σ.2.2.2 0)))), (a 2, .inl (G.2.1 1, 10, .inr (.inl (σ.2.2.2 1)))), (a 3, .inl (G.2.1 0, 10, .inl (σ.2.1 2))), (a 4, .inl (G.2.1 1, 11, .inr (.inl (σ.2.2.2 3)))), (a 5, .inl (G.2.1 0, 11, .inl (σ.2.1 4))), (a 6, .inl (G.2.1 0, 10, .inl (σ.2.1 5))), (a 7, .inl (G.2.1 0, 10, .inl (σ.2.1 6)))]
def wD (G : GP) (a : Nat → Nat) (σ : ST) : va_W := [(a 0, .inr (4, [.ref (a 1), .ref (a 2), .ref (a 3), .int (σ.1 3), .int (σ.1 4), .int (σ.1 5)])), (a 1, .inl (G.2.1 4, 3, .inr (.inr (.inr (.inr (fun i => if i < 3 then some (a (10 + i)) else none)))))), (a 10, .inl (G.2.1 0, 4, .inl (σ.2.1 10))), (a 11, .inl (G.2.1 0, 4, .inl (σ.2.1 11))), (a 12, .inl (G.2.1 0, 4, .inl (σ.2.1 12))), (a 2, .inl (G.2.1 4, 4, .inr (.inr (.inr (.inr (fun i => if i < 4 then some (a (20 + i)) else none)))))), (a 20, .inl (G.2.1 0, 4, .inl (σ.2.1 20))), (a 21, .inl (G.2.1 0, 4, .inl (σ.2.1 21))), (a 22, .inl (G.2.1 0, 4, .inl (σ.2.1 22))), (a 23, .inl (G.2.1 0, 4, .inl (σ.2.1 23))), (a 3, .inl (G.2.1 0, 6, .inl (σ.2.1 2)))]
def wE (G : GP) (a : Nat → Nat) (x : Nat) (σ : ST) : va_W := [(a 0, .inr (5, [.ref (x), .ref (a 2), .int (σ.1 2), .int (σ.1 3), .int (σ.1 4)])), (a 2, .inl (G.2.1 0, 4, .inl (σ.2.1 1)))]
def wR (G : GP) (a : Nat → Nat) (σ : ST) : va_W := [(a 0, .inr (6, [.ref (a 1), .ref (a 2), .ref (a 3), .int (σ.1 3)])), (a 1, .inl (G.2.1 0, 30, .inl (σ.2.1 0))), (a 2, .inl (G.2.1 0, 30, .inl (σ.2.1 1))), (a 3, .inl (G.2.1 0, 30, .inl (σ.2.1 2)))]
def wS (G : GP) (a : Nat → Nat) (σ : ST) : va_W := [(a 0, .inr (7, [.ref (a 1), .ref (a 2), .int (σ.1 2)])), (a 1, .inl (G.2.1 0, 6, .inl (σ.2.1 0))), (a 2, .inl (G.2.1 0, 6, .inl (σ.2.1 1)))]
def wT (G : GP) (a : Nat → Nat) (σ : ST) : va_W := [(a 0, .inr (9, [.ref (a 1), .int (σ.1 1)])), (a 1, .inl (G.2.1 3, 92, .inl (σ.2.1 0)))]
def wX (G : GP) (a : Nat → Nat) (σ : ST) : va_W := [(a 0, .inr (11, [.ref (a 1), .ref (a 2), .ref (a 3), .ref (a 4), .int (σ.1 4), .int (σ.1 5), .int (σ.1 6), .ref (a 8), .ref (a 9), .ref (a 10), .ref (a 11), .int (σ.1 11), .int (σ.1 12), .int (σ.1 13), .int (σ.1 14), .ref (a 16), .int (σ.1 16), .int (σ.1 17), .int (σ.1 18), .int (σ.1 19), .int (σ.1 20), .ref (a 22), .ref (a 23), .int (σ.1 23), .ref (a 25), .ref (a 26), .ref (a 27), .int (σ.1 27), .int (σ.1 28), .int (σ.1 29), .int (σ.1 30), .ref (a 32), .ref (a 33), .ref (a 34), .ref (a 35), .ref (a 36), .ref (a 37)])), (a 1, .inl (G.2.1 0, 24, .inl (σ.2.1 0))), (a 2, .inl (G.2.1 0, 12, .inl (σ.2.1 1))), (a 3, .inl (G.2.1 0, 16, .inl (σ.2.1 2))), (a 4, .inl (G.2.1 0, 6, .inl (σ.2.1 3))), (a 8, .inl (G.2.1 0, 24, .inl (σ.2.1 7))), (a 9, .inl (G.2.1 0, 12, .inl (σ.2.1 8))), (a 10, .inl (G.2.1 0, 16, .inl (σ.2.1 9))), (a 11, .inl (G.2.1 0, 6, .inl (σ.2.1 10))), (a 16, .inl (G.2.1 0, 92, .inl (σ.2.1 15))), (a 22, .inl (G.2.1 0, 400, .inl (σ.2.1 21))), (a 23, .inl (G.2.1 0, 90, .inl (σ.2.1 22))), (a 25, .inl (G.2.1 0, 6, .inl (σ.2.1 24))), (a 26, .inl (G.2.1 0, 6, .inl (σ.2.1 25))), (a 27, .inl (G.2.1 0, 480, .inl (σ.2.1 26))), (a 32, .inl (G.2.1 2, 16384, .inl (σ.2.1 31))), (a 33, .inl (G.2.1 2, 2, .inl (σ.2.1 32))), (a 34, .inl (G.2.1 0, 50, .inl (σ.2.1 33))), (a 35, .inl (G.2.1 0, 12, .inl (σ.2.1 34))), (a 36, .inl (G.2.1 0, 12, .inl (σ.2.1 35))), (a 37, .inl (G.2.1 0, 2, .inl (σ.2.1 36)))]
def wF (a b g : Nat) : va_W := [(a, .inr (2, [.ref b, .ref g]))]
def wL (a b g : Nat) (σ : ST) : va_W := [(a, .inr (8, [.ref b, .ref g, .int (σ.1 2)]))]
def wM (a t0 t1 t2 t3 t4 t5 t6 t7 : Nat) : va_W := [(a, .inr (10, [.ref t0, .ref t1, .ref t2, .ref t3, .ref t4, .ref t5, .ref t6, .ref t7]))]
def wZ (G : GP) (a b g : Nat) : va_W := [(a, .inl (G.2.1 5, 2, .inr (.inr (.inr (.inr (va_up (va_up (fun _ => none) 0 (some b)) 1 (some g)))))))]
def wI (G : GP) (a : Nat) (f : Nat → Int32) : va_W := [(a, .inl (G.2.1 0, 4, .inl f))]
theorem iX0 : ∀ w ∈ wsX00, w ∈ TB := by decide +kernel
theorem iX1 : ∀ w ∈ wsX10, w ∈ TB := by decide +kernel
theorem iX2 : ∀ w ∈ wsX20, w ∈ TB := by decide +kernel
theorem iX3 : ∀ w ∈ wsX30, w ∈ TB := by decide +kernel
theorem iX4 : ∀ w ∈ wsX40, w ∈ TB := by decide +kernel
theorem iX5 : ∀ w ∈ wsX50, w ∈ TB := by decide +kernel
theorem iX6 : ∀ w ∈ wsX60, w ∈ TB := by decide +kernel
theorem iX7 : ∀ w ∈ wsX70, w ∈ TB := by decide +kernel
theorem iX8 : ∀ w ∈ wsX80, w ∈ TB := by decide +kernel
theorem iX9 : ∀ w ∈ wsX90, w ∈ TB := by decide +kernel
theorem iX10 : ∀ w ∈ wsX100, w ∈ TB := by decide +kernel
theorem iX11 : ∀ w ∈ wsX110, w ∈ TB := by decide +kernel
theorem top_nm {p : Program} {l : Launch} {e : Env} {R : Room} {s : State} {m : MethodId} {args : Array Value} {below : List Frame} {meth : Method} {c : Code} {H : Heap} {locs : List Loc} {cells slots : Nat} {Q : State → Prop} {pc : Nat} {ls : Array Slot} {rest : List Value} {x y : Int32} (h : y = x) (k : W p l e R s m args below meth c H locs cells slots Q (F0 m pc ls (.int y :: rest))) : W p l e R s m args below meth c H locs cells slots Q (F0 m pc ls (.int x :: rest)) := h ▸ k
theorem rt_n {p : Program} {l : Launch} {e : Env} {R : Room} {s : State} {m : MethodId} {args : Array Value} {below : List Frame} {meth : Method} {c : Code} {H : Heap} {locs : List Loc} {G : GP} {cc : ByteArray} {own : String} {nL pc : Nat} {A : Nat → Prop} {ls : Array Slot} {w1 : va_W} {ty : FieldType} {r : Int32} (K : Cx p s m meth c G cc own nL (some ty) args A) (hz : narrow ty (.int r) = .int r) (hP : va_P G.1 vwCl w1 H) (hD : va_D A w1) (hS : va_S A s.heap H locs) (hdg : decode cc pc = .ok (.ireturn, 1)) : W p l e R s m args below meth c H locs 0 0 (QQ below G args s w1 (some (.int r)) A) (F0 m pc ls [.int r]) := W.zret K.1 K.2.1 K.2.2.1 hz (fun t ht _ => ⟨⟨rfl, by rw [ht]; exact hP, hD⟩, hS.F ht⟩) hS.2.2 hdg K.2.2.2.2.2.2.1
theorem vpi {i : Int32} {n : Nat} (h : decide (i < 0 ∨ n ≤ i.toNatClampNeg) = false) : vp_in i n := of_decide_eq_false h
theorem fz_bool {r : Int32} (h : r = 0 ∨ r = 1) : fits .boolean (.int r) = true := by rcases h with rfl | rfl <;> rfl
theorem my_aald {p : Program} {l : Launch} {e : Env} {R : Room} {s : State} {m : MethodId} {args : Array Value} {below : List Frame} {meth : Method} {c : Code} {H : Heap} {locs : List Loc} {cells slots : Nat} {Q : State → Prop} {cc : ByteArray} {pc : Nat} {ls : Array Slot} {rest : List Value} {D : va_G} {cl : List vw_C} {a b : Nat} {tys : List (ClassId × FieldType)} {ws : va_W}
    (hexec : p.tables.exec = Jvm.exec) (hb : c.code = cc) (hK : va_K D cl tys s) (hP : va_P D cl ws H) (q0 t0 : Nat) {cA : ClassId} {ty : FieldType} {n : Nat} {f : Nat → Option Nat} (ha : ws[q0]? = some (a, .inl (cA, n, .inr (.inr (.inr (.inr f)))))) (ht : tys[t0]? = some (cA, ty)) (hrk : ty.isReference = true) {i : Int32} (hin : vp_in i n) (hf : f i.toNatClampNeg = some b) (hdg : decode cc pc = .ok (.aaload, 1))
    (kk : W p l e R s m args below meth c H locs cells slots Q (F0 m (pc + 1) ls (.ref b :: rest))) : W p l e R s m args below meth c H locs cells slots Q (F0 m pc ls (.int i :: .ref a :: rest)) := by
  have hlt : i.toNatClampNeg < n := Nat.not_le.mp fun q => hin (Or.inr q)
  exact W.aald (v := .ref b) (ty := ty) hexec hb (hP q0 _ ha) ((hK.2 t0 _ ht).1 n (fun j => va_rf (f j))) hrk (fun q => by cases q) (by show ¬ (i < 0 ∨ (arrV _ _ _).slots.size ≤ _); rw [arrV_size]; exact hin) (by show (arrV _ _ _).slots[_]? = _; rw [arrV_read _ _ hlt, hf]; rfl) rfl rfl hdg kk
end
section
theorem lb_m9 : (Int8.ofInt (-9)).toInt32 = (-9 : Int32) := by decide
theorem lb_m4 : (Int8.ofInt (-4)).toInt32 = (-4 : Int32) := by decide
theorem lb_m3 : (Int8.ofInt (-3)).toInt32 = (-3 : Int32) := by decide
theorem lb_m2 : (Int8.ofInt (-2)).toInt32 = (-2 : Int32) := by decide
theorem lb_6 : (Int8.ofInt (6)).toInt32 = (6 : Int32) := by decide
theorem lb_8 : (Int8.ofInt (8)).toInt32 = (8 : Int32) := by decide
theorem lb_9 : (Int8.ofInt (9)).toInt32 = (9 : Int32) := by decide
theorem lb_10 : (Int8.ofInt (10)).toInt32 = (10 : Int32) := by decide
theorem lb_11 : (Int8.ofInt (11)).toInt32 = (11 : Int32) := by decide
theorem lb_12 : (Int8.ofInt (12)).toInt32 = (12 : Int32) := by decide
theorem lb_15 : (Int8.ofInt (15)).toInt32 = (15 : Int32) := by decide
theorem lb_16 : (Int8.ofInt (16)).toInt32 = (16 : Int32) := by decide
theorem lb_24 : (Int8.ofInt (24)).toInt32 = (24 : Int32) := by decide
theorem lb_25 : (Int8.ofInt (25)).toInt32 = (25 : Int32) := by decide
theorem lb_30 : (Int8.ofInt (30)).toInt32 = (30 : Int32) := by decide
theorem lb_48 : (Int8.ofInt (48)).toInt32 = (48 : Int32) := by decide
theorem lb_50 : (Int8.ofInt (50)).toInt32 = (50 : Int32) := by decide
theorem lb_57 : (Int8.ofInt (57)).toInt32 = (57 : Int32) := by decide
theorem lb_60 : (Int8.ofInt (60)).toInt32 = (60 : Int32) := by decide
theorem lb_63 : (Int8.ofInt (63)).toInt32 = (63 : Int32) := by decide
theorem lb_66 : (Int8.ofInt (66)).toInt32 = (66 : Int32) := by decide
theorem lb_71 : (Int8.ofInt (71)).toInt32 = (71 : Int32) := by decide
theorem lb_72 : (Int8.ofInt (72)).toInt32 = (72 : Int32) := by decide
theorem lb_76 : (Int8.ofInt (76)).toInt32 = (76 : Int32) := by decide
theorem lb_79 : (Int8.ofInt (79)).toInt32 = (79 : Int32) := by decide
theorem lb_87 : (Int8.ofInt (87)).toInt32 = (87 : Int32) := by decide
theorem lb_90 : (Int8.ofInt (90)).toInt32 = (90 : Int32) := by decide
theorem lb_92 : (Int8.ofInt (92)).toInt32 = (92 : Int32) := by decide
theorem lb_97 : (Int8.ofInt (97)).toInt32 = (97 : Int32) := by decide
theorem lb_99 : (Int8.ofInt (99)).toInt32 = (99 : Int32) := by decide
theorem lb_102 : (Int8.ofInt (102)).toInt32 = (102 : Int32) := by decide
theorem lh_255 : (Int16.ofInt (255)).toInt32 = (255 : Int32) := by decide
theorem lh_400 : (Int16.ofInt (400)).toInt32 = (400 : Int32) := by decide
theorem lh_480 : (Int16.ofInt (480)).toInt32 = (480 : Int32) := by decide
theorem lh_1023 : (Int16.ofInt (1023)).toInt32 = (1023 : Int32) := by decide
theorem lh_1024 : (Int16.ofInt (1024)).toInt32 = (1024 : Int32) := by decide
theorem lh_16384 : (Int16.ofInt (16384)).toInt32 = (16384 : Int32) := by decide
theorem li_m1 : Int32.ofInt (-1) = (-1 : Int32) := by decide
theorem li_0 : Int32.ofInt (0) = (0 : Int32) := by decide
theorem li_1 : Int32.ofInt (1) = (1 : Int32) := by decide
theorem li_2 : Int32.ofInt (2) = (2 : Int32) := by decide
theorem li_3 : Int32.ofInt (3) = (3 : Int32) := by decide
theorem li_4 : Int32.ofInt (4) = (4 : Int32) := by decide
theorem li_5 : Int32.ofInt (5) = (5 : Int32) := by decide
theorem ll_0 : Int64.ofNat ((0 : Fin 2) : Nat) = (0 : Int64) := by decide
theorem ll_1 : Int64.ofNat ((1 : Fin 2) : Nat) = (1 : Int64) := by decide
theorem tw_0_0 : Cond.selects RX10 yX10_countByRule yX10_countByRule ∈ TB := tb_of (tb_0 0 rfl) rfl
theorem tw_0_1 : Cond.selects RX11 yX11_readText yX11_readText ∈ TB := tb_of (tb_0 1 rfl) rfl
theorem tw_0_10 : Cond.selects RX11 yX11_isTaken yX11_isTaken ∈ TB := tb_of (tb_0 10 rfl) rfl
theorem tw_0_11 : Cond.selects RX11 yX11_keepAct yX11_keepAct ∈ TB := tb_of (tb_0 11 rfl) rfl
theorem tw_0_12 : Cond.selects RX11 yX11_darkOf yX11_darkOf ∈ TB := tb_of (tb_0 12 rfl) rfl
theorem tw_0_13 : Cond.selects RX11 yX11_lit yX11_lit ∈ TB := tb_of (tb_0 13 rfl) rfl
theorem tw_0_14 : Cond.selects RX11 yX11_layRuns yX11_layRuns ∈ TB := tb_of (tb_0 14 rfl) rfl
theorem tw_0_15 : Cond.selects RX11 yX11_countedOf yX11_countedOf ∈ TB := tb_of (tb_0 15 rfl) rfl
theorem tw_0_16 : Cond.selects RX11 yX11_counts yX11_counts ∈ TB := tb_of (tb_0 16 rfl) rfl
theorem tw_0_17 : Cond.selects RX11 yX11_isHidden yX11_isHidden ∈ TB := tb_of (tb_0 17 rfl) rfl
theorem tw_0_18 : Cond.selects RX11 yX11_layFits yX11_layFits ∈ TB := tb_of (tb_0 18 rfl) rfl
theorem tw_0_19 : Cond.selects RX11 yX11_isFit yX11_isFit ∈ TB := tb_of (tb_0 19 rfl) rfl
theorem tw_0_2 : Cond.selects RX11 yX11_readPart yX11_readPart ∈ TB := tb_of (tb_0 2 rfl) rfl
theorem tw_0_20 : Cond.selects RX11 yX11_rowDark yX11_rowDark ∈ TB := tb_of (tb_0 20 rfl) rfl
theorem tw_0_21 : Cond.selects RX11 yX11_layFit yX11_layFit ∈ TB := tb_of (tb_0 21 rfl) rfl
theorem tw_0_3 : Cond.selects RX11 yX11_readBodyPart yX11_readBodyPart ∈ TB := tb_of (tb_0 3 rfl) rfl
theorem tw_0_4 : Cond.selects RX11 yX11_fail yX11_fail ∈ TB := tb_of (tb_0 4 rfl) rfl
theorem tw_0_5 : Cond.selects RX11 yX11_freeRows yX11_freeRows ∈ TB := tb_of (tb_0 5 rfl) rfl
theorem tw_0_6 : Cond.selects RX11 yX11_sign yX11_sign ∈ TB := tb_of (tb_0 6 rfl) rfl
theorem tw_0_7 : Cond.selects RX11 yX11_untold yX11_untold ∈ TB := tb_of (tb_0 7 rfl) rfl
theorem tw_0_8 : Cond.selects RX11 yX11_isBody yX11_isBody ∈ TB := tb_of (tb_0 8 rfl) rfl
theorem tw_0_9 : Cond.selects RX11 yX11_isHill yX11_isHill ∈ TB := tb_of (tb_0 9 rfl) rfl
theorem tw_1_1 : Cond.initialized RX10 ∈ TB := tb_of (tb_1 1 rfl) rfl
theorem tw_1_10 : Cond.initialized RX3 ∈ TB := tb_of (tb_1 10 rfl) rfl
theorem tw_1_100 : Cond.fieldLink RX4 23 "ShadowCount$Ground" "hillCount" "I" ∈ TB := tb_of (tb_1 100 rfl) rfl
theorem tw_1_101 : Cond.fieldLink RX5 88 "ShadowCount$Ground" "hillCount" "I" ∈ TB := tb_of (tb_1 101 rfl) rfl
theorem tw_1_102 : Cond.fieldLink RX2 77 "ShadowCount$Ground" "hillCount" "I" ∈ TB := tb_of (tb_1 102 rfl) rfl
theorem tw_1_103 : Cond.fieldLink RX10 236 "ShadowCount$Ground" "hillCount" "I" ∈ TB := tb_of (tb_1 103 rfl) rfl
theorem tw_1_104 : Cond.fieldLink RX4 27 "ShadowCount$Ground" "cloudCount" "I" ∈ TB := tb_of (tb_1 104 rfl) rfl
theorem tw_1_105 : Cond.fieldLink RX5 96 "ShadowCount$Ground" "cloudCount" "I" ∈ TB := tb_of (tb_1 105 rfl) rfl
theorem tw_1_106 : Cond.fieldLink RX10 239 "ShadowCount$Ground" "cloudCount" "I" ∈ TB := tb_of (tb_1 106 rfl) rfl
theorem tw_1_107 : Cond.fieldLink RX4 30 "ShadowCount$Ground" "cliffRows" "I" ∈ TB := tb_of (tb_1 107 rfl) rfl
theorem tw_1_108 : Cond.fieldLink RX5 93 "ShadowCount$Ground" "cliffRows" "I" ∈ TB := tb_of (tb_1 108 rfl) rfl
theorem tw_1_109 : Cond.fieldLink RX10 242 "ShadowCount$Ground" "cliffRows" "I" ∈ TB := tb_of (tb_1 109 rfl) rfl
theorem tw_1_11 : Cond.initialized RX8 ∈ TB := tb_of (tb_1 11 rfl) rfl
theorem tw_1_12 : Cond.initialized RX11 ∈ TB := tb_of (tb_1 12 rfl) rfl
theorem tw_1_123 : Cond.fieldLink RX2 12 "ShadowCount$Field" "bodies" "LShadowCount$Bodies;" ∈ TB := tb_of (tb_1 123 rfl) rfl
theorem tw_1_124 : Cond.fieldLink RX5 77 "ShadowCount$Field" "bodies" "LShadowCount$Bodies;" ∈ TB := tb_of (tb_1 124 rfl) rfl
theorem tw_1_125 : Cond.fieldLink RX10 91 "ShadowCount$Field" "bodies" "LShadowCount$Bodies;" ∈ TB := tb_of (tb_1 125 rfl) rfl
theorem tw_1_126 : Cond.fieldLink RX2 21 "ShadowCount$Field" "ground" "LShadowCount$Ground;" ∈ TB := tb_of (tb_1 126 rfl) rfl
theorem tw_1_127 : Cond.fieldLink RX6 25 "ShadowCount$Field" "ground" "LShadowCount$Ground;" ∈ TB := tb_of (tb_1 127 rfl) rfl
theorem tw_1_128 : Cond.fieldLink RX5 84 "ShadowCount$Field" "ground" "LShadowCount$Ground;" ∈ TB := tb_of (tb_1 128 rfl) rfl
theorem tw_1_129 : Cond.fieldLink RX10 119 "ShadowCount$Field" "ground" "LShadowCount$Ground;" ∈ TB := tb_of (tb_1 129 rfl) rfl
theorem tw_1_13 : Cond.initialized RJ0 ∈ TB := tb_of (tb_1 13 rfl) rfl
theorem tw_1_135 : Cond.fieldLink RX5 12 "ShadowCount$Reader" "draft" "LShadowCount$Field;" ∈ TB := tb_of (tb_1 135 rfl) rfl
theorem tw_1_136 : Cond.fieldLink RX10 77 "ShadowCount$Reader" "draft" "LShadowCount$Field;" ∈ TB := tb_of (tb_1 136 rfl) rfl
theorem tw_1_137 : Cond.fieldLink RX5 18 "ShadowCount$Reader" "told" "[I" ∈ TB := tb_of (tb_1 137 rfl) rfl
theorem tw_1_138 : Cond.fieldLink RX5 25 "ShadowCount$Reader" "toldCount" "I" ∈ TB := tb_of (tb_1 138 rfl) rfl
theorem tw_1_139 : Cond.fieldLink RX5 29 "ShadowCount$Reader" "part" "I" ∈ TB := tb_of (tb_1 139 rfl) rfl
theorem tw_1_14 : Cond.initialized RJ1 ∈ TB := tb_of (tb_1 14 rfl) rfl
theorem tw_1_140 : Cond.fieldLink RX5 32 "ShadowCount$Reader" "begun" "Z" ∈ TB := tb_of (tb_1 140 rfl) rfl
theorem tw_1_15 : Cond.initialized RJ9 ∈ TB := tb_of (tb_1 15 rfl) rfl
theorem tw_1_152 : Cond.classLink RX10 23 RX2 ∈ TB := tb_of (tb_1 152 rfl) rfl
theorem tw_1_153 : Cond.methodLinkNest RX10 25 yX2_init RX10 ∈ TN := tn_of (tb_1 153 rfl) rfl
theorem tw_1_154 : Cond.classLink RX10 30 RX0 ∈ TB := tb_of (tb_1 154 rfl) rfl
theorem tw_1_155 : Cond.instantiable RX0 7 ∈ TB := tb_of (tb_1 155 rfl) rfl
theorem tw_1_156 : Cond.methodLinkNest RX10 32 yX0_init RX10 ∈ TN := tn_of (tb_1 156 rfl) rfl
theorem tw_1_157 : Cond.instanceMethod yX0_init ∈ TB := tb_of (tb_1 157 rfl) rfl
theorem tw_1_158 : Cond.code yX0_init cX0_init 1 none ∈ TB := tb_of (tb_1 158 rfl) rfl
theorem tw_1_159 : Cond.methodLink RX0 1 objectInit ∈ TB := tb_of (tb_1 159 rfl) rfl
theorem tw_1_160 : Cond.fieldLink RX0 9 "ShadowCount$Acts" "sort" "[I" ∈ TB := tb_of (tb_1 160 rfl) rfl
theorem tw_1_161 : Cond.fieldLink RX0 13 "ShadowCount$Acts" "body" "[I" ∈ TB := tb_of (tb_1 161 rfl) rfl
theorem tw_1_162 : Cond.fieldLink RX0 16 "ShadowCount$Acts" "kind" "[I" ∈ TB := tb_of (tb_1 162 rfl) rfl
theorem tw_1_163 : Cond.fieldLink RX0 19 "ShadowCount$Acts" "x" "[I" ∈ TB := tb_of (tb_1 163 rfl) rfl
theorem tw_1_164 : Cond.fieldLink RX0 22 "ShadowCount$Acts" "y" "[I" ∈ TB := tb_of (tb_1 164 rfl) rfl
theorem tw_1_165 : Cond.fieldLink RX0 25 "ShadowCount$Acts" "oldest" "I" ∈ TB := tb_of (tb_1 165 rfl) rfl
theorem tw_1_166 : Cond.fieldLink RX0 29 "ShadowCount$Acts" "size" "I" ∈ TB := tb_of (tb_1 166 rfl) rfl
theorem tw_1_167 : Cond.fieldLink RX10 158 "ShadowCount$Acts" "size" "I" ∈ TB := tb_of (tb_1 167 rfl) rfl
theorem tw_1_183 : Cond.classLink RX10 37 RX6 ∈ TB := tb_of (tb_1 183 rfl) rfl
theorem tw_1_184 : Cond.instantiable RX6 4 ∈ TB := tb_of (tb_1 184 rfl) rfl
theorem tw_1_185 : Cond.methodLinkNest RX10 39 yX6_init RX10 ∈ TN := tn_of (tb_1 185 rfl) rfl
theorem tw_1_186 : Cond.instanceMethod yX6_init ∈ TB := tb_of (tb_1 186 rfl) rfl
theorem tw_1_187 : Cond.code yX6_init cX6_init 1 none ∈ TB := tb_of (tb_1 187 rfl) rfl
theorem tw_1_188 : Cond.methodLink RX6 3 objectInit ∈ TB := tb_of (tb_1 188 rfl) rfl
theorem tw_1_189 : Cond.fieldLink RX6 11 "ShadowCount$Runs" "row" "[I" ∈ TB := tb_of (tb_1 189 rfl) rfl
theorem tw_1_19 : Cond.initialized RJ10 ∈ TB := tb_of (tb_1 19 rfl) rfl
theorem tw_1_190 : Cond.fieldLink RX10 178 "ShadowCount$Runs" "row" "[I" ∈ TB := tb_of (tb_1 190 rfl) rfl
theorem tw_1_191 : Cond.fieldLink RX6 15 "ShadowCount$Runs" "first" "[I" ∈ TB := tb_of (tb_1 191 rfl) rfl
theorem tw_1_192 : Cond.fieldLink RX10 181 "ShadowCount$Runs" "first" "[I" ∈ TB := tb_of (tb_1 192 rfl) rfl
theorem tw_1_193 : Cond.fieldLink RX6 18 "ShadowCount$Runs" "length" "[I" ∈ TB := tb_of (tb_1 193 rfl) rfl
theorem tw_1_194 : Cond.fieldLink RX10 184 "ShadowCount$Runs" "length" "[I" ∈ TB := tb_of (tb_1 194 rfl) rfl
theorem tw_1_195 : Cond.fieldLink RX6 21 "ShadowCount$Runs" "size" "I" ∈ TB := tb_of (tb_1 195 rfl) rfl
theorem tw_1_196 : Cond.fieldLink RX10 177 "ShadowCount$Runs" "size" "I" ∈ TB := tb_of (tb_1 196 rfl) rfl
theorem tw_1_2 : Cond.initialized RX9 ∈ TB := tb_of (tb_1 2 rfl) rfl
theorem tw_1_206 : Cond.classLink RX10 44 RX7 ∈ TB := tb_of (tb_1 206 rfl) rfl
theorem tw_1_207 : Cond.instantiable RX7 3 ∈ TB := tb_of (tb_1 207 rfl) rfl
theorem tw_1_208 : Cond.methodLinkNest RX10 46 yX7_init RX10 ∈ TN := tn_of (tb_1 208 rfl) rfl
theorem tw_1_209 : Cond.instanceMethod yX7_init ∈ TB := tb_of (tb_1 209 rfl) rfl
theorem tw_1_210 : Cond.code yX7_init cX7_init 1 none ∈ TB := tb_of (tb_1 210 rfl) rfl
theorem tw_1_211 : Cond.methodLink RX7 1 objectInit ∈ TB := tb_of (tb_1 211 rfl) rfl
theorem tw_1_212 : Cond.fieldLink RX7 9 "ShadowCount$Sights" "minute" "[I" ∈ TB := tb_of (tb_1 212 rfl) rfl
theorem tw_1_213 : Cond.fieldLink RX3 62 "ShadowCount$Sights" "minute" "[I" ∈ TB := tb_of (tb_1 213 rfl) rfl
theorem tw_1_214 : Cond.fieldLink RX7 13 "ShadowCount$Sights" "cells" "[I" ∈ TB := tb_of (tb_1 214 rfl) rfl
theorem tw_1_215 : Cond.fieldLink RX3 44 "ShadowCount$Sights" "cells" "[I" ∈ TB := tb_of (tb_1 215 rfl) rfl
theorem tw_1_216 : Cond.fieldLink RX7 16 "ShadowCount$Sights" "size" "I" ∈ TB := tb_of (tb_1 216 rfl) rfl
theorem tw_1_217 : Cond.fieldLink RX3 38 "ShadowCount$Sights" "size" "I" ∈ TB := tb_of (tb_1 217 rfl) rfl
theorem tw_1_218 : Cond.fieldLink RX10 203 "ShadowCount$Sights" "size" "I" ∈ TB := tb_of (tb_1 218 rfl) rfl
theorem tw_1_226 : Cond.classLink RX10 51 RX3 ∈ TB := tb_of (tb_1 226 rfl) rfl
theorem tw_1_227 : Cond.instantiable RX3 8 ∈ TB := tb_of (tb_1 227 rfl) rfl
theorem tw_1_228 : Cond.methodLinkNest RX10 53 yX3_init RX10 ∈ TN := tn_of (tb_1 228 rfl) rfl
theorem tw_1_229 : Cond.instanceMethod yX3_init ∈ TB := tb_of (tb_1 229 rfl) rfl
theorem tw_1_230 : Cond.code yX3_init cX3_init 1 none ∈ TB := tb_of (tb_1 230 rfl) rfl
theorem tw_1_231 : Cond.methodLink RX3 3 objectInit ∈ TB := tb_of (tb_1 231 rfl) rfl
theorem tw_1_232 : Cond.fieldLink RX3 9 "ShadowCount$Fits" "child" "[J" ∈ TB := tb_of (tb_1 232 rfl) rfl
theorem tw_1_233 : Cond.fieldLink RX3 15 "ShadowCount$Fits" "man" "[J" ∈ TB := tb_of (tb_1 233 rfl) rfl
theorem tw_1_234 : Cond.fieldLink RX3 18 "ShadowCount$Fits" "choices" "[I" ∈ TB := tb_of (tb_1 234 rfl) rfl
theorem tw_1_235 : Cond.fieldLink RX3 22 "ShadowCount$Fits" "darkFrom" "[J" ∈ TB := tb_of (tb_1 235 rfl) rfl
theorem tw_1_236 : Cond.fieldLink RX3 25 "ShadowCount$Fits" "waysFrom" "[I" ∈ TB := tb_of (tb_1 236 rfl) rfl
theorem tw_1_237 : Cond.fieldLink RX3 28 "ShadowCount$Fits" "childReach" "[I" ∈ TB := tb_of (tb_1 237 rfl) rfl
theorem tw_1_238 : Cond.fieldLink RX3 31 "ShadowCount$Fits" "manReach" "[I" ∈ TB := tb_of (tb_1 238 rfl) rfl
theorem tw_1_239 : Cond.fieldLink RX3 34 "ShadowCount$Fits" "wanted" "J" ∈ TB := tb_of (tb_1 239 rfl) rfl
theorem tw_1_25 : Cond.methodLink RX10 1 objectInit ∈ TB := tb_of (tb_1 25 rfl) rfl
theorem tw_1_26 : Cond.instanceMethod objectInit ∈ TB := tb_of (tb_1 26 rfl) rfl
theorem tw_1_27 : Cond.code objectInit ⟨#[0xb1]⟩ 1 none ∈ TB := tb_of (tb_1 27 rfl) rfl
theorem tw_1_28 : Cond.classLink RX10 7 RX9 ∈ TB := tb_of (tb_1 28 rfl) rfl
theorem tw_1_29 : Cond.instantiable RX9 2 ∈ TB := tb_of (tb_1 29 rfl) rfl
theorem tw_1_3 : Cond.initialized RX5 ∈ TB := tb_of (tb_1 3 rfl) rfl
theorem tw_1_30 : Cond.methodLinkNest RX10 9 yX9_init RX10 ∈ TN := tn_of (tb_1 30 rfl) rfl
theorem tw_1_31 : Cond.instanceMethod yX9_init ∈ TB := tb_of (tb_1 31 rfl) rfl
theorem tw_1_32 : Cond.code yX9_init cX9_init 1 none ∈ TB := tb_of (tb_1 32 rfl) rfl
theorem tw_1_33 : Cond.methodLink RX9 1 objectInit ∈ TB := tb_of (tb_1 33 rfl) rfl
theorem tw_1_34 : Cond.fieldLink RX9 9 "ShadowCount$Text" "bytes" "[B" ∈ TB := tb_of (tb_1 34 rfl) rfl
theorem tw_1_35 : Cond.fieldLink RX5 41 "ShadowCount$Text" "bytes" "[B" ∈ TB := tb_of (tb_1 35 rfl) rfl
theorem tw_1_36 : Cond.fieldLink RX9 13 "ShadowCount$Text" "size" "I" ∈ TB := tb_of (tb_1 36 rfl) rfl
theorem tw_1_37 : Cond.fieldLink RX10 65 "ShadowCount$Text" "size" "I" ∈ TB := tb_of (tb_1 37 rfl) rfl
theorem tw_1_38 : Cond.fieldLink RX5 36 "ShadowCount$Text" "size" "I" ∈ TB := tb_of (tb_1 38 rfl) rfl
theorem tw_1_4 : Cond.initialized RX2 ∈ TB := tb_of (tb_1 4 rfl) rfl
theorem tw_1_44 : Cond.arrayClass .byte ∈ TB := tb_of (tb_1 44 rfl) rfl
theorem tw_1_45 : Cond.classLink RX10 16 RX5 ∈ TB := tb_of (tb_1 45 rfl) rfl
theorem tw_1_46 : Cond.instantiable RX5 5 ∈ TB := tb_of (tb_1 46 rfl) rfl
theorem tw_1_47 : Cond.methodLinkNest RX10 18 yX5_init RX10 ∈ TN := tn_of (tb_1 47 rfl) rfl
theorem tw_1_48 : Cond.instanceMethod yX5_init ∈ TB := tb_of (tb_1 48 rfl) rfl
theorem tw_1_49 : Cond.code yX5_init cX5_init 1 none ∈ TB := tb_of (tb_1 49 rfl) rfl
theorem tw_1_5 : Cond.initialized RX1 ∈ TB := tb_of (tb_1 5 rfl) rfl
theorem tw_1_50 : Cond.methodLink RX5 3 objectInit ∈ TB := tb_of (tb_1 50 rfl) rfl
theorem tw_1_51 : Cond.classLink RX5 9 RX2 ∈ TB := tb_of (tb_1 51 rfl) rfl
theorem tw_1_52 : Cond.instantiable RX2 2 ∈ TB := tb_of (tb_1 52 rfl) rfl
theorem tw_1_53 : Cond.methodLinkNest RX5 11 yX2_init RX10 ∈ TN := tn_of (tb_1 53 rfl) rfl
theorem tw_1_54 : Cond.instanceMethod yX2_init ∈ TB := tb_of (tb_1 54 rfl) rfl
theorem tw_1_55 : Cond.code yX2_init cX2_init 1 none ∈ TB := tb_of (tb_1 55 rfl) rfl
theorem tw_1_56 : Cond.methodLink RX2 3 objectInit ∈ TB := tb_of (tb_1 56 rfl) rfl
theorem tw_1_57 : Cond.classLink RX2 9 RX1 ∈ TB := tb_of (tb_1 57 rfl) rfl
theorem tw_1_58 : Cond.instantiable RX1 4 ∈ TB := tb_of (tb_1 58 rfl) rfl
theorem tw_1_59 : Cond.methodLinkNest RX2 11 yX1_init RX10 ∈ TN := tn_of (tb_1 59 rfl) rfl
theorem tw_1_6 : Cond.initialized RX4 ∈ TB := tb_of (tb_1 6 rfl) rfl
theorem tw_1_60 : Cond.instanceMethod yX1_init ∈ TB := tb_of (tb_1 60 rfl) rfl
theorem tw_1_61 : Cond.code yX1_init cX1_init 1 none ∈ TB := tb_of (tb_1 61 rfl) rfl
theorem tw_1_62 : Cond.methodLink RX1 1 objectInit ∈ TB := tb_of (tb_1 62 rfl) rfl
theorem tw_1_63 : Cond.fieldLink RX1 9 "ShadowCount$Bodies" "kind" "[I" ∈ TB := tb_of (tb_1 63 rfl) rfl
theorem tw_1_64 : Cond.fieldLink RX0 38 "ShadowCount$Bodies" "kind" "[I" ∈ TB := tb_of (tb_1 64 rfl) rfl
theorem tw_1_65 : Cond.fieldLink RX10 102 "ShadowCount$Bodies" "kind" "[I" ∈ TB := tb_of (tb_1 65 rfl) rfl
theorem tw_1_66 : Cond.fieldLink RX1 13 "ShadowCount$Bodies" "x" "[I" ∈ TB := tb_of (tb_1 66 rfl) rfl
theorem tw_1_67 : Cond.fieldLink RX0 39 "ShadowCount$Bodies" "x" "[I" ∈ TB := tb_of (tb_1 67 rfl) rfl
theorem tw_1_68 : Cond.fieldLink RX2 47 "ShadowCount$Bodies" "x" "[I" ∈ TB := tb_of (tb_1 68 rfl) rfl
theorem tw_1_69 : Cond.fieldLink RX10 106 "ShadowCount$Bodies" "x" "[I" ∈ TB := tb_of (tb_1 69 rfl) rfl
theorem tw_1_7 : Cond.initialized RX0 ∈ TB := tb_of (tb_1 7 rfl) rfl
theorem tw_1_70 : Cond.fieldLink RX1 16 "ShadowCount$Bodies" "y" "[I" ∈ TB := tb_of (tb_1 70 rfl) rfl
theorem tw_1_71 : Cond.fieldLink RX0 40 "ShadowCount$Bodies" "y" "[I" ∈ TB := tb_of (tb_1 71 rfl) rfl
theorem tw_1_72 : Cond.fieldLink RX2 39 "ShadowCount$Bodies" "y" "[I" ∈ TB := tb_of (tb_1 72 rfl) rfl
theorem tw_1_73 : Cond.fieldLink RX10 109 "ShadowCount$Bodies" "y" "[I" ∈ TB := tb_of (tb_1 73 rfl) rfl
theorem tw_1_74 : Cond.fieldLink RX1 19 "ShadowCount$Bodies" "size" "I" ∈ TB := tb_of (tb_1 74 rfl) rfl
theorem tw_1_75 : Cond.fieldLink RX2 25 "ShadowCount$Bodies" "size" "I" ∈ TB := tb_of (tb_1 75 rfl) rfl
theorem tw_1_76 : Cond.fieldLink RX5 81 "ShadowCount$Bodies" "size" "I" ∈ TB := tb_of (tb_1 76 rfl) rfl
theorem tw_1_77 : Cond.fieldLink RX10 95 "ShadowCount$Bodies" "size" "I" ∈ TB := tb_of (tb_1 77 rfl) rfl
theorem tw_1_8 : Cond.initialized RX6 ∈ TB := tb_of (tb_1 8 rfl) rfl
theorem tw_1_87 : Cond.arrayClass .int ∈ TB := tb_of (tb_1 87 rfl) rfl
theorem tw_1_88 : Cond.classLink RX2 18 RX4 ∈ TB := tb_of (tb_1 88 rfl) rfl
theorem tw_1_89 : Cond.instantiable RX4 6 ∈ TB := tb_of (tb_1 89 rfl) rfl
theorem tw_1_9 : Cond.initialized RX7 ∈ TB := tb_of (tb_1 9 rfl) rfl
theorem tw_1_90 : Cond.methodLinkNest RX2 20 yX4_init RX10 ∈ TN := tn_of (tb_1 90 rfl) rfl
theorem tw_1_91 : Cond.instanceMethod yX4_init ∈ TB := tb_of (tb_1 91 rfl) rfl
theorem tw_1_92 : Cond.code yX4_init cX4_init 1 none ∈ TB := tb_of (tb_1 92 rfl) rfl
theorem tw_1_93 : Cond.methodLink RX4 3 objectInit ∈ TB := tb_of (tb_1 93 rfl) rfl
theorem tw_1_94 : Cond.classLink RX4 11 "[[I" ∈ TB := tb_of (tb_1 94 rfl) rfl
theorem tw_1_96 : Cond.fieldLink RX4 13 "ShadowCount$Ground" "hills" "[[I" ∈ TB := tb_of (tb_1 96 rfl) rfl
theorem tw_1_97 : Cond.fieldLink RX10 132 "ShadowCount$Ground" "hills" "[[I" ∈ TB := tb_of (tb_1 97 rfl) rfl
theorem tw_1_98 : Cond.fieldLink RX4 16 "ShadowCount$Ground" "clouds" "[[I" ∈ TB := tb_of (tb_1 98 rfl) rfl
theorem tw_1_99 : Cond.fieldLink RX4 19 "ShadowCount$Ground" "sunFrom" "[I" ∈ TB := tb_of (tb_1 99 rfl) rfl
theorem tw_2_100 : Cond.selects RX5 yX5_opensPart yX5_opensPart ∈ TB := tb_of (tb_2 100 rfl) rfl
theorem tw_2_101 : Cond.code yX5_opensPart cX5_opensPart 2 (some .boolean) ∈ TB := tb_of (tb_2 101 rfl) rfl
theorem tw_2_103 : Cond.methodLink RX5 54 yJ0_indexOf_0f7a4 ∈ TB := tb_of (tb_2 103 rfl) rfl
theorem tw_2_104 : Cond.instanceMethod yJ0_indexOf_0f7a4 ∈ TB := tb_of (tb_2 104 rfl) rfl
theorem tw_2_105 : Cond.selects RJ0 yJ0_indexOf_0f7a4 yJ0_indexOf_0f7a4 ∈ TB := tb_of (tb_2 105 rfl) rfl
theorem tw_2_106 : Cond.code yJ0_indexOf_0f7a4 cJ0_indexOf_0f7a4 2 (some .int) ∈ TB := tb_of (tb_2 106 rfl) rfl
theorem tw_2_107 : Cond.methodLink RJ0 633 yJ0_indexOf_7cf53 ∈ TB := tb_of (tb_2 107 rfl) rfl
theorem tw_2_108 : Cond.instanceMethod yJ0_indexOf_7cf53 ∈ TB := tb_of (tb_2 108 rfl) rfl
theorem tw_2_109 : Cond.selects RJ0 yJ0_indexOf_7cf53 yJ0_indexOf_7cf53 ∈ TB := tb_of (tb_2 109 rfl) rfl
theorem tw_2_110 : Cond.code yJ0_indexOf_7cf53 cJ0_indexOf_7cf53 3 (some .int) ∈ TB := tb_of (tb_2 110 rfl) rfl
theorem tw_2_111 : Cond.methodLink RJ0 492 yJ0_isLatin1_aae02 ∈ TB := tb_of (tb_2 111 rfl) rfl
theorem tw_2_112 : Cond.instanceMethod yJ0_isLatin1_aae02 ∈ TB := tb_of (tb_2 112 rfl) rfl
theorem tw_2_113 : Cond.selects RJ0 yJ0_isLatin1_aae02 yJ0_isLatin1_aae02 ∈ TB := tb_of (tb_2 113 rfl) rfl
theorem tw_2_114 : Cond.code yJ0_isLatin1_aae02 cJ0_isLatin1_aae02 1 (some .boolean) ∈ TB := tb_of (tb_2 114 rfl) rfl
theorem tw_2_115 : Cond.fieldLink RJ0 38 "java/lang/String" "COMPACT_STRINGS" "Z" ∈ TB := tb_of (tb_2 115 rfl) rfl
theorem tw_2_117 : Cond.methodLink RJ0 505 yJ0_length_8abf5 ∈ TB := tb_of (tb_2 117 rfl) rfl
theorem tw_2_118 : Cond.instanceMethod yJ0_length_8abf5 ∈ TB := tb_of (tb_2 118 rfl) rfl
theorem tw_2_119 : Cond.selects RJ0 yJ0_length_8abf5 yJ0_length_8abf5 ∈ TB := tb_of (tb_2 119 rfl) rfl
theorem tw_2_120 : Cond.code yJ0_length_8abf5 cJ0_length_8abf5 1 (some .int) ∈ TB := tb_of (tb_2 120 rfl) rfl
theorem tw_2_121 : Cond.methodLink RJ0 335 yJ0_coder_7d493 ∈ TB := tb_of (tb_2 121 rfl) rfl
theorem tw_2_122 : Cond.instanceMethod yJ0_coder_7d493 ∈ TB := tb_of (tb_2 122 rfl) rfl
theorem tw_2_123 : Cond.selects RJ0 yJ0_coder_7d493 yJ0_coder_7d493 ∈ TB := tb_of (tb_2 123 rfl) rfl
theorem tw_2_124 : Cond.code yJ0_coder_7d493 cJ0_coder_7d493 1 (some .byte) ∈ TB := tb_of (tb_2 124 rfl) rfl
theorem tw_2_125 : Cond.methodLink RJ0 637 yJ1_indexOf_4cfef ∈ TB := tb_of (tb_2 125 rfl) rfl
theorem tw_2_126 : Cond.static yJ1_indexOf_4cfef ∈ TB := tb_of (tb_2 126 rfl) rfl
theorem tw_2_127 : Cond.code yJ1_indexOf_4cfef cJ1_indexOf_4cfef 4 (some .int) ∈ TB := tb_of (tb_2 127 rfl) rfl
theorem tw_2_128 : Cond.methodLink RJ1 88 yJ1_canEncode_9a6ad ∈ TB := tb_of (tb_2 128 rfl) rfl
theorem tw_2_129 : Cond.static yJ1_canEncode_9a6ad ∈ TB := tb_of (tb_2 129 rfl) rfl
theorem tw_2_130 : Cond.code yJ1_canEncode_9a6ad cJ1_canEncode_9a6ad 1 (some .boolean) ∈ TB := tb_of (tb_2 130 rfl) rfl
theorem tw_2_131 : Cond.methodLink RJ1 92 Lib.Math.max.name ∈ TB := tb_of (tb_2 131 rfl) rfl
theorem tw_2_132 : Cond.static Lib.Math.max.name ∈ TB := tb_of (tb_2 132 rfl) rfl
theorem tw_2_133 : Cond.code Lib.Math.max.name Lib.Math.max.code 2 (some .int) ∈ TB := tb_of (tb_2 133 rfl) rfl
theorem tw_2_134 : Cond.methodLink RJ1 38 Lib.Math.min.name ∈ TB := tb_of (tb_2 134 rfl) rfl
theorem tw_2_135 : Cond.static Lib.Math.min.name ∈ TB := tb_of (tb_2 135 rfl) rfl
theorem tw_2_136 : Cond.code Lib.Math.min.name Lib.Math.min.code 2 (some .int) ∈ TB := tb_of (tb_2 136 rfl) rfl
theorem tw_2_137 : Cond.methodLink RJ1 95 yJ1_indexOfChar_4cfef ∈ TB := tb_of (tb_2 137 rfl) rfl
theorem tw_2_138 : Cond.static yJ1_indexOfChar_4cfef ∈ TB := tb_of (tb_2 138 rfl) rfl
theorem tw_2_139 : Cond.code yJ1_indexOfChar_4cfef cJ1_indexOfChar_4cfef 6 (some .int) ∈ TB := tb_of (tb_2 139 rfl) rfl
theorem tw_2_17 : Cond.arrayClass .long ∈ TB := tb_of (tb_2 17 rfl) rfl
theorem tw_2_18 : Cond.classLink RX10 58 RX8 ∈ TB := tb_of (tb_2 18 rfl) rfl
theorem tw_2_189 : Cond.methodLink RX5 60 yX5_valueOf ∈ TB := tb_of (tb_2 189 rfl) rfl
theorem tw_2_190 : Cond.static yX5_valueOf ∈ TB := tb_of (tb_2 190 rfl) rfl
theorem tw_2_191 : Cond.code yX5_valueOf cX5_valueOf 1 (some .int) ∈ TB := tb_of (tb_2 191 rfl) rfl
theorem tw_2_192 : Cond.methodLinkNest RX5 63 yX10_isBelow RX10 ∈ TN := tn_of (tb_2 192 rfl) rfl
theorem tw_2_193 : Cond.static yX10_isBelow ∈ TB := tb_of (tb_2 193 rfl) rfl
theorem tw_2_194 : Cond.code yX10_isBelow cX10_isBelow 2 (some .boolean) ∈ TB := tb_of (tb_2 194 rfl) rfl
theorem tw_2_195 : Cond.methodLink RX5 67 yX5_allows ∈ TB := tb_of (tb_2 195 rfl) rfl
theorem tw_2_196 : Cond.instanceMethod yX5_allows ∈ TB := tb_of (tb_2 196 rfl) rfl
theorem tw_2_197 : Cond.selects RX5 yX5_allows yX5_allows ∈ TB := tb_of (tb_2 197 rfl) rfl
theorem tw_2_198 : Cond.code yX5_allows cX5_allows 2 (some .boolean) ∈ TB := tb_of (tb_2 198 rfl) rfl
theorem tw_2_199 : Cond.methodLink RX5 99 yX5_allowsForBody ∈ TB := tb_of (tb_2 199 rfl) rfl
theorem tw_2_20 : Cond.instantiable RX8 3 ∈ TB := tb_of (tb_2 20 rfl) rfl
theorem tw_2_200 : Cond.instanceMethod yX5_allowsForBody ∈ TB := tb_of (tb_2 200 rfl) rfl
theorem tw_2_201 : Cond.selects RX5 yX5_allowsForBody yX5_allowsForBody ∈ TB := tb_of (tb_2 201 rfl) rfl
theorem tw_2_202 : Cond.code yX5_allowsForBody cX5_allowsForBody 2 (some .boolean) ∈ TB := tb_of (tb_2 202 rfl) rfl
theorem tw_2_203 : Cond.methodLink RX5 108 yX1_inColumn ∈ TB := tb_of (tb_2 203 rfl) rfl
theorem tw_2_204 : Cond.instanceMethod yX1_inColumn ∈ TB := tb_of (tb_2 204 rfl) rfl
theorem tw_2_205 : Cond.selects RX1 yX1_inColumn yX1_inColumn ∈ TB := tb_of (tb_2 205 rfl) rfl
theorem tw_2_206 : Cond.code yX1_inColumn cX1_inColumn 4 (some .int) ∈ TB := tb_of (tb_2 206 rfl) rfl
theorem tw_2_207 : Cond.methodLink RX5 111 yX1_standsAt ∈ TB := tb_of (tb_2 207 rfl) rfl
theorem tw_2_208 : Cond.instanceMethod yX1_standsAt ∈ TB := tb_of (tb_2 208 rfl) rfl
theorem tw_2_209 : Cond.selects RX1 yX1_standsAt yX1_standsAt ∈ TB := tb_of (tb_2 209 rfl) rfl
theorem tw_2_21 : Cond.methodLinkNest RX10 60 yX8_init RX10 ∈ TN := tn_of (tb_2 21 rfl) rfl
theorem tw_2_210 : Cond.code yX1_standsAt cX1_standsAt 4 (some .boolean) ∈ TB := tb_of (tb_2 210 rfl) rfl
theorem tw_2_211 : Cond.methodLink RX5 102 yX5_allowsForCliff ∈ TB := tb_of (tb_2 211 rfl) rfl
theorem tw_2_212 : Cond.instanceMethod yX5_allowsForCliff ∈ TB := tb_of (tb_2 212 rfl) rfl
theorem tw_2_213 : Cond.selects RX5 yX5_allowsForCliff yX5_allowsForCliff ∈ TB := tb_of (tb_2 213 rfl) rfl
theorem tw_2_214 : Cond.code yX5_allowsForCliff cX5_allowsForCliff 2 (some .boolean) ∈ TB := tb_of (tb_2 214 rfl) rfl
theorem tw_2_215 : Cond.methodLink RX5 114 yX4_hasCliff ∈ TB := tb_of (tb_2 215 rfl) rfl
theorem tw_2_216 : Cond.instanceMethod yX4_hasCliff ∈ TB := tb_of (tb_2 216 rfl) rfl
theorem tw_2_217 : Cond.selects RX4 yX4_hasCliff yX4_hasCliff ∈ TB := tb_of (tb_2 217 rfl) rfl
theorem tw_2_218 : Cond.code yX4_hasCliff cX4_hasCliff 2 (some .boolean) ∈ TB := tb_of (tb_2 218 rfl) rfl
theorem tw_2_219 : Cond.methodLinkNest RX5 117 yX10_isMinute RX10 ∈ TN := tn_of (tb_2 219 rfl) rfl
theorem tw_2_22 : Cond.instanceMethod yX8_init ∈ TB := tb_of (tb_2 22 rfl) rfl
theorem tw_2_220 : Cond.static yX10_isMinute ∈ TB := tb_of (tb_2 220 rfl) rfl
theorem tw_2_221 : Cond.code yX10_isMinute cX10_isMinute 1 (some .boolean) ∈ TB := tb_of (tb_2 221 rfl) rfl
theorem tw_2_222 : Cond.methodLink RX10 128 yX10_isBelow ∈ TB := tb_of (tb_2 222 rfl) rfl
theorem tw_2_223 : Cond.methodLink RX5 105 yX5_allowsInRange ∈ TB := tb_of (tb_2 223 rfl) rfl
theorem tw_2_224 : Cond.instanceMethod yX5_allowsInRange ∈ TB := tb_of (tb_2 224 rfl) rfl
theorem tw_2_225 : Cond.selects RX5 yX5_allowsInRange yX5_allowsInRange ∈ TB := tb_of (tb_2 225 rfl) rfl
theorem tw_2_226 : Cond.code yX5_allowsInRange cX5_allowsInRange 4 (some .boolean) ∈ TB := tb_of (tb_2 226 rfl) rfl
theorem tw_2_227 : Cond.methodLink RX5 70 yX5_signsOfPart ∈ TB := tb_of (tb_2 227 rfl) rfl
theorem tw_2_228 : Cond.instanceMethod yX5_signsOfPart ∈ TB := tb_of (tb_2 228 rfl) rfl
theorem tw_2_229 : Cond.selects RX5 yX5_signsOfPart yX5_signsOfPart ∈ TB := tb_of (tb_2 229 rfl) rfl
theorem tw_2_23 : Cond.code yX8_init cX8_init 1 none ∈ TB := tb_of (tb_2 23 rfl) rfl
theorem tw_2_230 : Cond.code yX5_signsOfPart cX5_signsOfPart 1 (some .int) ∈ TB := tb_of (tb_2 230 rfl) rfl
theorem tw_2_231 : Cond.methodLink RX5 74 yX5_endPart ∈ TB := tb_of (tb_2 231 rfl) rfl
theorem tw_2_232 : Cond.instanceMethod yX5_endPart ∈ TB := tb_of (tb_2 232 rfl) rfl
theorem tw_2_233 : Cond.selects RX5 yX5_endPart yX5_endPart ∈ TB := tb_of (tb_2 233 rfl) rfl
theorem tw_2_234 : Cond.code yX5_endPart cX5_endPart 1 none ∈ TB := tb_of (tb_2 234 rfl) rfl
theorem tw_2_235 : Cond.methodLink RX5 120 yX1_insert ∈ TB := tb_of (tb_2 235 rfl) rfl
theorem tw_2_236 : Cond.instanceMethod yX1_insert ∈ TB := tb_of (tb_2 236 rfl) rfl
theorem tw_2_237 : Cond.selects RX1 yX1_insert yX1_insert ∈ TB := tb_of (tb_2 237 rfl) rfl
theorem tw_2_238 : Cond.code yX1_insert cX1_insert 6 none ∈ TB := tb_of (tb_2 238 rfl) rfl
theorem tw_2_239 : Cond.methodLinkNest RX1 23 yX10_isBelow RX10 ∈ TN := tn_of (tb_2 239 rfl) rfl
theorem tw_2_24 : Cond.methodLink RX8 1 objectInit ∈ TB := tb_of (tb_2 24 rfl) rfl
theorem tw_2_25 : Cond.classLink RX8 7 RX1 ∈ TB := tb_of (tb_2 25 rfl) rfl
theorem tw_2_26 : Cond.methodLinkNest RX8 9 yX1_init RX10 ∈ TN := tn_of (tb_2 26 rfl) rfl
theorem tw_2_27 : Cond.classLink RX8 16 RX7 ∈ TB := tb_of (tb_2 27 rfl) rfl
theorem tw_2_28 : Cond.methodLinkNest RX8 18 yX7_init RX10 ∈ TN := tn_of (tb_2 28 rfl) rfl
theorem tw_2_29 : Cond.fieldLink RX8 10 "ShadowCount$Slot" "bodies" "LShadowCount$Bodies;" ∈ TB := tb_of (tb_2 29 rfl) rfl
theorem tw_2_30 : Cond.fieldLink RX10 230 "ShadowCount$Slot" "bodies" "LShadowCount$Bodies;" ∈ TB := tb_of (tb_2 30 rfl) rfl
theorem tw_2_31 : Cond.fieldLink RX8 19 "ShadowCount$Slot" "sights" "LShadowCount$Sights;" ∈ TB := tb_of (tb_2 31 rfl) rfl
theorem tw_2_32 : Cond.fieldLink RX10 233 "ShadowCount$Slot" "sights" "LShadowCount$Sights;" ∈ TB := tb_of (tb_2 32 rfl) rfl
theorem tw_2_33 : Cond.fieldLink RX10 87 "ShadowCount$Slot" "filled" "Z" ∈ TB := tb_of (tb_2 33 rfl) rfl
theorem tw_2_41 : Cond.fieldLink RX10 10 "ShadowCount" "text" "LShadowCount$Text;" ∈ TB := tb_of (tb_2 41 rfl) rfl
theorem tw_2_42 : Cond.fieldLink RX10 19 "ShadowCount" "reader" "LShadowCount$Reader;" ∈ TB := tb_of (tb_2 42 rfl) rfl
theorem tw_2_43 : Cond.fieldLink RX10 26 "ShadowCount" "field" "LShadowCount$Field;" ∈ TB := tb_of (tb_2 43 rfl) rfl
theorem tw_2_44 : Cond.fieldLink RX10 33 "ShadowCount" "acts" "LShadowCount$Acts;" ∈ TB := tb_of (tb_2 44 rfl) rfl
theorem tw_2_45 : Cond.fieldLink RX10 40 "ShadowCount" "seen" "LShadowCount$Runs;" ∈ TB := tb_of (tb_2 45 rfl) rfl
theorem tw_2_46 : Cond.fieldLink RX10 47 "ShadowCount" "sights" "LShadowCount$Sights;" ∈ TB := tb_of (tb_2 46 rfl) rfl
theorem tw_2_47 : Cond.fieldLink RX10 54 "ShadowCount" "rows" "LShadowCount$Fits;" ∈ TB := tb_of (tb_2 47 rfl) rfl
theorem tw_2_48 : Cond.fieldLink RX10 61 "ShadowCount" "slots" "[LShadowCount$Slot;" ∈ TB := tb_of (tb_2 48 rfl) rfl
theorem tw_2_70 : Cond.methodLink RX10 69 yX9_add ∈ TB := tb_of (tb_2 70 rfl) rfl
theorem tw_2_71 : Cond.instanceMethod yX9_add ∈ TB := tb_of (tb_2 71 rfl) rfl
theorem tw_2_72 : Cond.selects RX9 yX9_add yX9_add ∈ TB := tb_of (tb_2 72 rfl) rfl
theorem tw_2_73 : Cond.code yX9_add cX9_add 2 none ∈ TB := tb_of (tb_2 73 rfl) rfl
theorem tw_2_82 : Cond.methodLink RX10 73 yX5_firstFault ∈ TB := tb_of (tb_2 82 rfl) rfl
theorem tw_2_83 : Cond.instanceMethod yX5_firstFault ∈ TB := tb_of (tb_2 83 rfl) rfl
theorem tw_2_84 : Cond.selects RX5 yX5_firstFault yX5_firstFault ∈ TB := tb_of (tb_2 84 rfl) rfl
theorem tw_2_85 : Cond.code yX5_firstFault cX5_firstFault 3 (some .int) ∈ TB := tb_of (tb_2 85 rfl) rfl
theorem tw_2_86 : Cond.methodLink RX5 22 yX2_clear ∈ TB := tb_of (tb_2 86 rfl) rfl
theorem tw_2_87 : Cond.instanceMethod yX2_clear ∈ TB := tb_of (tb_2 87 rfl) rfl
theorem tw_2_88 : Cond.selects RX2 yX2_clear yX2_clear ∈ TB := tb_of (tb_2 88 rfl) rfl
theorem tw_2_89 : Cond.code yX2_clear cX2_clear 1 none ∈ TB := tb_of (tb_2 89 rfl) rfl
theorem tw_2_90 : Cond.methodLink RX2 29 yX4_clear ∈ TB := tb_of (tb_2 90 rfl) rfl
theorem tw_2_91 : Cond.instanceMethod yX4_clear ∈ TB := tb_of (tb_2 91 rfl) rfl
theorem tw_2_92 : Cond.selects RX4 yX4_clear yX4_clear ∈ TB := tb_of (tb_2 92 rfl) rfl
theorem tw_2_93 : Cond.code yX4_clear cX4_clear 1 none ∈ TB := tb_of (tb_2 93 rfl) rfl
theorem tw_2_94 : Cond.methodLink RX5 45 yX5_accepts ∈ TB := tb_of (tb_2 94 rfl) rfl
theorem tw_2_95 : Cond.instanceMethod yX5_accepts ∈ TB := tb_of (tb_2 95 rfl) rfl
theorem tw_2_96 : Cond.selects RX5 yX5_accepts yX5_accepts ∈ TB := tb_of (tb_2 96 rfl) rfl
theorem tw_2_97 : Cond.code yX5_accepts cX5_accepts 3 (some .boolean) ∈ TB := tb_of (tb_2 97 rfl) rfl
theorem tw_2_98 : Cond.methodLink RX5 49 yX5_opensPart ∈ TB := tb_of (tb_2 98 rfl) rfl
theorem tw_2_99 : Cond.instanceMethod yX5_opensPart ∈ TB := tb_of (tb_2 99 rfl) rfl
theorem tw_3_0 : Cond.methodLink RX1 39 yX1_renumber ∈ TB := tb_of (tb_3 0 rfl) rfl
theorem tw_3_1 : Cond.instanceMethod yX1_renumber ∈ TB := tb_of (tb_3 1 rfl) rfl
theorem tw_3_10 : Cond.code yX4_copyFour cX4_copyFour 2 none ∈ TB := tb_of (tb_3 10 rfl) rfl
theorem tw_3_100 : Cond.methodLink RX1 43 yX1_has ∈ TB := tb_of (tb_3 100 rfl) rfl
theorem tw_3_105 : Cond.methodLink RX10 159 yX0_undo ∈ TB := tb_of (tb_3 105 rfl) rfl
theorem tw_3_106 : Cond.instanceMethod yX0_undo ∈ TB := tb_of (tb_3 106 rfl) rfl
theorem tw_3_107 : Cond.selects RX0 yX0_undo yX0_undo ∈ TB := tb_of (tb_3 107 rfl) rfl
theorem tw_3_108 : Cond.code yX0_undo cX0_undo 3 none ∈ TB := tb_of (tb_3 108 rfl) rfl
theorem tw_3_109 : Cond.methodLink RX0 41 yX1_remove ∈ TB := tb_of (tb_3 109 rfl) rfl
theorem tw_3_11 : Cond.methodLink RX4 49 arraycopyName ∈ TB := tb_of (tb_3 11 rfl) rfl
theorem tw_3_110 : Cond.methodLink RX0 45 yX1_insert ∈ TB := tb_of (tb_3 110 rfl) rfl
theorem tw_3_115 : Cond.methodLink RX10 163 yX10_isMinute ∈ TB := tb_of (tb_3 115 rfl) rfl
theorem tw_3_116 : Cond.methodLink RX10 166 yX10_lengthOfShadow ∈ TB := tb_of (tb_3 116 rfl) rfl
theorem tw_3_117 : Cond.static yX10_lengthOfShadow ∈ TB := tb_of (tb_3 117 rfl) rfl
theorem tw_3_118 : Cond.code yX10_lengthOfShadow cX10_lengthOfShadow 2 (some .int) ∈ TB := tb_of (tb_3 118 rfl) rfl
theorem tw_3_12 : Cond.static arraycopyName ∈ TB := tb_of (tb_3 12 rfl) rfl
theorem tw_3_123 : Cond.methodLink RX10 170 yX2_darkCells ∈ TB := tb_of (tb_3 123 rfl) rfl
theorem tw_3_124 : Cond.instanceMethod yX2_darkCells ∈ TB := tb_of (tb_3 124 rfl) rfl
theorem tw_3_125 : Cond.selects RX2 yX2_darkCells yX2_darkCells ∈ TB := tb_of (tb_3 125 rfl) rfl
theorem tw_3_126 : Cond.code yX2_darkCells cX2_darkCells 5 (some .int) ∈ TB := tb_of (tb_3 126 rfl) rfl
theorem tw_3_127 : Cond.methodLink RX2 43 yX1_height ∈ TB := tb_of (tb_3 127 rfl) rfl
theorem tw_3_128 : Cond.methodLinkNest RX2 50 yX10_reach RX10 ∈ TN := tn_of (tb_3 128 rfl) rfl
theorem tw_3_129 : Cond.static yX10_reach ∈ TB := tb_of (tb_3 129 rfl) rfl
theorem tw_3_13 : Cond.native arraycopyName ∈ TB := tb_of (tb_3 13 rfl) rfl
theorem tw_3_130 : Cond.code yX10_reach cX10_reach 4 (some .int) ∈ TB := tb_of (tb_3 130 rfl) rfl
theorem tw_3_131 : Cond.methodLink RX10 251 yX10_columnBits ∈ TB := tb_of (tb_3 131 rfl) rfl
theorem tw_3_132 : Cond.static yX10_columnBits ∈ TB := tb_of (tb_3 132 rfl) rfl
theorem tw_3_133 : Cond.code yX10_columnBits cX10_columnBits 4 (some .int) ∈ TB := tb_of (tb_3 133 rfl) rfl
theorem tw_3_134 : Cond.methodLink RX10 254 Lib.Math.max.name ∈ TB := tb_of (tb_3 134 rfl) rfl
theorem tw_3_135 : Cond.methodLink RX10 257 Lib.Math.min.name ∈ TB := tb_of (tb_3 135 rfl) rfl
theorem tw_3_136 : Cond.methodLink RX2 54 yX4_sunnyCells ∈ TB := tb_of (tb_3 136 rfl) rfl
theorem tw_3_137 : Cond.instanceMethod yX4_sunnyCells ∈ TB := tb_of (tb_3 137 rfl) rfl
theorem tw_3_138 : Cond.selects RX4 yX4_sunnyCells yX4_sunnyCells ∈ TB := tb_of (tb_3 138 rfl) rfl
theorem tw_3_139 : Cond.code yX4_sunnyCells cX4_sunnyCells 6 (some .int) ∈ TB := tb_of (tb_3 139 rfl) rfl
theorem tw_3_14 : Cond.methodLink RX5 128 yX4_addCliff ∈ TB := tb_of (tb_3 14 rfl) rfl
theorem tw_3_140 : Cond.methodLink RX4 41 yX4_hasCliff ∈ TB := tb_of (tb_3 140 rfl) rfl
theorem tw_3_141 : Cond.methodLinkNest RX4 45 yX10_columnBits RX10 ∈ TN := tn_of (tb_3 141 rfl) rfl
theorem tw_3_146 : Cond.methodLink RX10 173 yX6_look ∈ TB := tb_of (tb_3 146 rfl) rfl
theorem tw_3_147 : Cond.instanceMethod yX6_look ∈ TB := tb_of (tb_3 147 rfl) rfl
theorem tw_3_148 : Cond.selects RX6 yX6_look yX6_look ∈ TB := tb_of (tb_3 148 rfl) rfl
theorem tw_3_149 : Cond.code yX6_look cX6_look 5 none ∈ TB := tb_of (tb_3 149 rfl) rfl
theorem tw_3_15 : Cond.instanceMethod yX4_addCliff ∈ TB := tb_of (tb_3 15 rfl) rfl
theorem tw_3_150 : Cond.methodLink RX6 31 yX4_view ∈ TB := tb_of (tb_3 150 rfl) rfl
theorem tw_3_151 : Cond.instanceMethod yX4_view ∈ TB := tb_of (tb_3 151 rfl) rfl
theorem tw_3_152 : Cond.selects RX4 yX4_view yX4_view ∈ TB := tb_of (tb_3 152 rfl) rfl
theorem tw_3_153 : Cond.code yX4_view cX4_view 4 (some .int) ∈ TB := tb_of (tb_3 153 rfl) rfl
theorem tw_3_154 : Cond.methodLink RX6 37 yX2_darkCells ∈ TB := tb_of (tb_3 154 rfl) rfl
theorem tw_3_155 : Cond.methodLink RX6 40 yX6_addRunsOf ∈ TB := tb_of (tb_3 155 rfl) rfl
theorem tw_3_156 : Cond.instanceMethod yX6_addRunsOf ∈ TB := tb_of (tb_3 156 rfl) rfl
theorem tw_3_157 : Cond.selects RX6 yX6_addRunsOf yX6_addRunsOf ∈ TB := tb_of (tb_3 157 rfl) rfl
theorem tw_3_158 : Cond.code yX6_addRunsOf cX6_addRunsOf 5 none ∈ TB := tb_of (tb_3 158 rfl) rfl
theorem tw_3_159 : Cond.methodLink RX6 44 yX6_add ∈ TB := tb_of (tb_3 159 rfl) rfl
theorem tw_3_16 : Cond.selects RX4 yX4_addCliff yX4_addCliff ∈ TB := tb_of (tb_3 16 rfl) rfl
theorem tw_3_160 : Cond.instanceMethod yX6_add ∈ TB := tb_of (tb_3 160 rfl) rfl
theorem tw_3_161 : Cond.selects RX6 yX6_add yX6_add ∈ TB := tb_of (tb_3 161 rfl) rfl
theorem tw_3_162 : Cond.code yX6_add cX6_add 4 none ∈ TB := tb_of (tb_3 162 rfl) rfl
theorem tw_3_17 : Cond.code yX4_addCliff cX4_addCliff 3 none ∈ TB := tb_of (tb_3 17 rfl) rfl
theorem tw_3_171 : Cond.methodLink RX10 187 yX2_lonely ∈ TB := tb_of (tb_3 171 rfl) rfl
theorem tw_3_172 : Cond.instanceMethod yX2_lonely ∈ TB := tb_of (tb_3 172 rfl) rfl
theorem tw_3_173 : Cond.selects RX2 yX2_lonely yX2_lonely ∈ TB := tb_of (tb_3 173 rfl) rfl
theorem tw_3_174 : Cond.code yX2_lonely cX2_lonely 4 (some .int) ∈ TB := tb_of (tb_3 174 rfl) rfl
theorem tw_3_175 : Cond.methodLink RX2 58 yX2_isLonely ∈ TB := tb_of (tb_3 175 rfl) rfl
theorem tw_3_176 : Cond.instanceMethod yX2_isLonely ∈ TB := tb_of (tb_3 176 rfl) rfl
theorem tw_3_177 : Cond.selects RX2 yX2_isLonely yX2_isLonely ∈ TB := tb_of (tb_3 177 rfl) rfl
theorem tw_3_178 : Cond.code yX2_isLonely cX2_isLonely 5 (some .boolean) ∈ TB := tb_of (tb_3 178 rfl) rfl
theorem tw_3_179 : Cond.methodLink RX2 62 yX2_darkCellsOf ∈ TB := tb_of (tb_3 179 rfl) rfl
theorem tw_3_18 : Cond.methodLinkNest RX4 33 yX10_isBelow RX10 ∈ TN := tn_of (tb_3 18 rfl) rfl
theorem tw_3_180 : Cond.instanceMethod yX2_darkCellsOf ∈ TB := tb_of (tb_3 180 rfl) rfl
theorem tw_3_181 : Cond.selects RX2 yX2_darkCellsOf yX2_darkCellsOf ∈ TB := tb_of (tb_3 181 rfl) rfl
theorem tw_3_182 : Cond.code yX2_darkCellsOf cX2_darkCellsOf 3 (some .int) ∈ TB := tb_of (tb_3 182 rfl) rfl
theorem tw_3_187 : Cond.methodLink RX10 190 yX10_countByRule ∈ TB := tb_of (tb_3 187 rfl) rfl
theorem tw_3_189 : Cond.instanceMethod yX10_countByRule ∈ TB := tb_of (tb_3 189 rfl) rfl
theorem tw_3_19 : Cond.methodLink RX5 132 yX4_addCloud ∈ TB := tb_of (tb_3 19 rfl) rfl
theorem tw_3_190 : Cond.code yX10_countByRule cX10_countByRule 3 (some .int) ∈ TB := tb_of (tb_3 190 rfl) rfl
theorem tw_3_191 : Cond.fieldLink RX10 245 "ShadowCount" "HEIGHT_OF_KIND" "[I" ∈ TB := tb_of (tb_3 191 rfl) rfl
theorem tw_3_192 : Cond.methodLink RX10 248 yX6_headsByRule ∈ TB := tb_of (tb_3 192 rfl) rfl
theorem tw_3_193 : Cond.instanceMethod yX6_headsByRule ∈ TB := tb_of (tb_3 193 rfl) rfl
theorem tw_3_194 : Cond.selects RX6 yX6_headsByRule yX6_headsByRule ∈ TB := tb_of (tb_3 194 rfl) rfl
theorem tw_3_195 : Cond.code yX6_headsByRule cX6_headsByRule 4 (some .int) ∈ TB := tb_of (tb_3 195 rfl) rfl
theorem tw_3_196 : Cond.methodLink RX6 48 yX6_headsOfRun ∈ TB := tb_of (tb_3 196 rfl) rfl
theorem tw_3_197 : Cond.static yX6_headsOfRun ∈ TB := tb_of (tb_3 197 rfl) rfl
theorem tw_3_198 : Cond.code yX6_headsOfRun cX6_headsOfRun 3 (some .int) ∈ TB := tb_of (tb_3 198 rfl) rfl
theorem tw_3_2 : Cond.selects RX1 yX1_renumber yX1_renumber ∈ TB := tb_of (tb_3 2 rfl) rfl
theorem tw_3_20 : Cond.instanceMethod yX4_addCloud ∈ TB := tb_of (tb_3 20 rfl) rfl
theorem tw_3_203 : Cond.methodLink RX10 193 yX1_allHeads ∈ TB := tb_of (tb_3 203 rfl) rfl
theorem tw_3_204 : Cond.instanceMethod yX1_allHeads ∈ TB := tb_of (tb_3 204 rfl) rfl
theorem tw_3_205 : Cond.selects RX1 yX1_allHeads yX1_allHeads ∈ TB := tb_of (tb_3 205 rfl) rfl
theorem tw_3_206 : Cond.code yX1_allHeads cX1_allHeads 3 (some .int) ∈ TB := tb_of (tb_3 206 rfl) rfl
theorem tw_3_207 : Cond.methodLink RX1 35 yX1_heads ∈ TB := tb_of (tb_3 207 rfl) rfl
theorem tw_3_208 : Cond.constant RX10 199 (2147483647) ∈ TB := tb_of (tb_3 208 rfl) rfl
theorem tw_3_21 : Cond.selects RX4 yX4_addCloud yX4_addCloud ∈ TB := tb_of (tb_3 21 rfl) rfl
theorem tw_3_213 : Cond.methodLink RX10 200 yX2_hiddenCell ∈ TB := tb_of (tb_3 213 rfl) rfl
theorem tw_3_214 : Cond.instanceMethod yX2_hiddenCell ∈ TB := tb_of (tb_3 214 rfl) rfl
theorem tw_3_215 : Cond.selects RX2 yX2_hiddenCell yX2_hiddenCell ∈ TB := tb_of (tb_3 215 rfl) rfl
theorem tw_3_216 : Cond.code yX2_hiddenCell cX2_hiddenCell 7 (some .int) ∈ TB := tb_of (tb_3 216 rfl) rfl
theorem tw_3_217 : Cond.methodLink RX2 65 yX2_darkCells ∈ TB := tb_of (tb_3 217 rfl) rfl
theorem tw_3_218 : Cond.methodLink RX2 68 yX2_watchedCells ∈ TB := tb_of (tb_3 218 rfl) rfl
theorem tw_3_219 : Cond.instanceMethod yX2_watchedCells ∈ TB := tb_of (tb_3 219 rfl) rfl
theorem tw_3_22 : Cond.code yX4_addCloud cX4_addCloud 2 none ∈ TB := tb_of (tb_3 22 rfl) rfl
theorem tw_3_220 : Cond.selects RX2 yX2_watchedCells yX2_watchedCells ∈ TB := tb_of (tb_3 220 rfl) rfl
theorem tw_3_221 : Cond.code yX2_watchedCells cX2_watchedCells 4 (some .int) ∈ TB := tb_of (tb_3 221 rfl) rfl
theorem tw_3_222 : Cond.methodLink RX2 80 yX4_view ∈ TB := tb_of (tb_3 222 rfl) rfl
theorem tw_3_223 : Cond.fieldLinkNest RX2 71 "ShadowCount" "HEIGHT_OF_KIND" "[I" RX10 ∈ TN := tn_of (tb_3 223 rfl) rfl
theorem tw_3_224 : Cond.methodLink RX2 74 yX1_standsAt ∈ TB := tb_of (tb_3 224 rfl) rfl
theorem tw_3_229 : Cond.methodLink RX10 204 yX7_add ∈ TB := tb_of (tb_3 229 rfl) rfl
theorem tw_3_230 : Cond.instanceMethod yX7_add ∈ TB := tb_of (tb_3 230 rfl) rfl
theorem tw_3_231 : Cond.selects RX7 yX7_add yX7_add ∈ TB := tb_of (tb_3 231 rfl) rfl
theorem tw_3_232 : Cond.code yX7_add cX7_add 3 none ∈ TB := tb_of (tb_3 232 rfl) rfl
theorem tw_3_27 : Cond.methodLink RX10 80 yX2_copyFrom ∈ TB := tb_of (tb_3 27 rfl) rfl
theorem tw_3_28 : Cond.instanceMethod yX2_copyFrom ∈ TB := tb_of (tb_3 28 rfl) rfl
theorem tw_3_29 : Cond.selects RX2 yX2_copyFrom yX2_copyFrom ∈ TB := tb_of (tb_3 29 rfl) rfl
theorem tw_3_3 : Cond.code yX1_renumber cX1_renumber 3 none ∈ TB := tb_of (tb_3 3 rfl) rfl
theorem tw_3_30 : Cond.code yX2_copyFrom cX2_copyFrom 2 none ∈ TB := tb_of (tb_3 30 rfl) rfl
theorem tw_3_31 : Cond.methodLink RX2 32 yX1_copyFrom ∈ TB := tb_of (tb_3 31 rfl) rfl
theorem tw_3_32 : Cond.instanceMethod yX1_copyFrom ∈ TB := tb_of (tb_3 32 rfl) rfl
theorem tw_3_33 : Cond.selects RX1 yX1_copyFrom yX1_copyFrom ∈ TB := tb_of (tb_3 33 rfl) rfl
theorem tw_3_34 : Cond.code yX1_copyFrom cX1_copyFrom 3 none ∈ TB := tb_of (tb_3 34 rfl) rfl
theorem tw_3_35 : Cond.methodLink RX2 36 yX4_copyFrom ∈ TB := tb_of (tb_3 35 rfl) rfl
theorem tw_3_36 : Cond.instanceMethod yX4_copyFrom ∈ TB := tb_of (tb_3 36 rfl) rfl
theorem tw_3_37 : Cond.selects RX4 yX4_copyFrom yX4_copyFrom ∈ TB := tb_of (tb_3 37 rfl) rfl
theorem tw_3_38 : Cond.code yX4_copyFrom cX4_copyFrom 3 none ∈ TB := tb_of (tb_3 38 rfl) rfl
theorem tw_3_39 : Cond.methodLink RX10 84 yX0_forget ∈ TB := tb_of (tb_3 39 rfl) rfl
theorem tw_3_4 : Cond.methodLink RX5 124 yX4_addHill ∈ TB := tb_of (tb_3 4 rfl) rfl
theorem tw_3_40 : Cond.instanceMethod yX0_forget ∈ TB := tb_of (tb_3 40 rfl) rfl
theorem tw_3_41 : Cond.selects RX0 yX0_forget yX0_forget ∈ TB := tb_of (tb_3 41 rfl) rfl
theorem tw_3_42 : Cond.code yX0_forget cX0_forget 1 none ∈ TB := tb_of (tb_3 42 rfl) rfl
theorem tw_3_47 : Cond.methodLink RX10 98 yX1_has ∈ TB := tb_of (tb_3 47 rfl) rfl
theorem tw_3_48 : Cond.instanceMethod yX1_has ∈ TB := tb_of (tb_3 48 rfl) rfl
theorem tw_3_49 : Cond.selects RX1 yX1_has yX1_has ∈ TB := tb_of (tb_3 49 rfl) rfl
theorem tw_3_5 : Cond.instanceMethod yX4_addHill ∈ TB := tb_of (tb_3 5 rfl) rfl
theorem tw_3_50 : Cond.code yX1_has cX1_has 2 (some .boolean) ∈ TB := tb_of (tb_3 50 rfl) rfl
theorem tw_3_51 : Cond.methodLink RX10 112 yX1_height ∈ TB := tb_of (tb_3 51 rfl) rfl
theorem tw_3_52 : Cond.instanceMethod yX1_height ∈ TB := tb_of (tb_3 52 rfl) rfl
theorem tw_3_53 : Cond.selects RX1 yX1_height yX1_height ∈ TB := tb_of (tb_3 53 rfl) rfl
theorem tw_3_54 : Cond.code yX1_height cX1_height 2 (some .int) ∈ TB := tb_of (tb_3 54 rfl) rfl
theorem tw_3_55 : Cond.fieldLinkNest RX1 29 "ShadowCount" "HEIGHT_OF_KIND" "[I" RX10 ∈ TN := tn_of (tb_3 55 rfl) rfl
theorem tw_3_57 : Cond.methodLink RX10 116 yX1_heads ∈ TB := tb_of (tb_3 57 rfl) rfl
theorem tw_3_58 : Cond.instanceMethod yX1_heads ∈ TB := tb_of (tb_3 58 rfl) rfl
theorem tw_3_59 : Cond.selects RX1 yX1_heads yX1_heads ∈ TB := tb_of (tb_3 59 rfl) rfl
theorem tw_3_6 : Cond.selects RX4 yX4_addHill yX4_addHill ∈ TB := tb_of (tb_3 6 rfl) rfl
theorem tw_3_60 : Cond.code yX1_heads cX1_heads 2 (some .int) ∈ TB := tb_of (tb_3 60 rfl) rfl
theorem tw_3_61 : Cond.fieldLinkNest RX1 32 "ShadowCount" "HEADS_OF_KIND" "[I" RX10 ∈ TN := tn_of (tb_3 61 rfl) rfl
theorem tw_3_67 : Cond.methodLink RX10 123 yX4_hasHill ∈ TB := tb_of (tb_3 67 rfl) rfl
theorem tw_3_68 : Cond.instanceMethod yX4_hasHill ∈ TB := tb_of (tb_3 68 rfl) rfl
theorem tw_3_69 : Cond.selects RX4 yX4_hasHill yX4_hasHill ∈ TB := tb_of (tb_3 69 rfl) rfl
theorem tw_3_7 : Cond.code yX4_addHill cX4_addHill 2 none ∈ TB := tb_of (tb_3 7 rfl) rfl
theorem tw_3_70 : Cond.code yX4_hasHill cX4_hasHill 2 (some .boolean) ∈ TB := tb_of (tb_3 70 rfl) rfl
theorem tw_3_75 : Cond.methodLink RX10 136 yX10_isCell ∈ TB := tb_of (tb_3 75 rfl) rfl
theorem tw_3_76 : Cond.static yX10_isCell ∈ TB := tb_of (tb_3 76 rfl) rfl
theorem tw_3_77 : Cond.code yX10_isCell cX10_isCell 2 (some .boolean) ∈ TB := tb_of (tb_3 77 rfl) rfl
theorem tw_3_78 : Cond.methodLink RX10 139 yX1_standsAt ∈ TB := tb_of (tb_3 78 rfl) rfl
theorem tw_3_79 : Cond.methodLink RX10 142 yX1_insert ∈ TB := tb_of (tb_3 79 rfl) rfl
theorem tw_3_8 : Cond.methodLink RX4 37 yX4_copyFour ∈ TB := tb_of (tb_3 8 rfl) rfl
theorem tw_3_80 : Cond.methodLink RX10 146 yX0_remember ∈ TB := tb_of (tb_3 80 rfl) rfl
theorem tw_3_81 : Cond.instanceMethod yX0_remember ∈ TB := tb_of (tb_3 81 rfl) rfl
theorem tw_3_82 : Cond.selects RX0 yX0_remember yX0_remember ∈ TB := tb_of (tb_3 82 rfl) rfl
theorem tw_3_83 : Cond.code yX0_remember cX0_remember 5 none ∈ TB := tb_of (tb_3 83 rfl) rfl
theorem tw_3_84 : Cond.methodLink RX0 32 yX1_has ∈ TB := tb_of (tb_3 84 rfl) rfl
theorem tw_3_89 : Cond.methodLink RX10 150 Lib.Math.abs.name ∈ TB := tb_of (tb_3 89 rfl) rfl
theorem tw_3_9 : Cond.static yX4_copyFour ∈ TB := tb_of (tb_3 9 rfl) rfl
theorem tw_3_90 : Cond.static Lib.Math.abs.name ∈ TB := tb_of (tb_3 90 rfl) rfl
theorem tw_3_91 : Cond.code Lib.Math.abs.name Lib.Math.abs.code 1 (some .int) ∈ TB := tb_of (tb_3 91 rfl) rfl
theorem tw_3_96 : Cond.methodLink RX10 155 yX1_remove ∈ TB := tb_of (tb_3 96 rfl) rfl
theorem tw_3_97 : Cond.instanceMethod yX1_remove ∈ TB := tb_of (tb_3 97 rfl) rfl
theorem tw_3_98 : Cond.selects RX1 yX1_remove yX1_remove ∈ TB := tb_of (tb_3 98 rfl) rfl
theorem tw_3_99 : Cond.code yX1_remove cX1_remove 3 none ∈ TB := tb_of (tb_3 99 rfl) rfl
theorem tw_4_1 : Cond.methodLink RX10 207 yX3_prepare ∈ TB := tb_of (tb_4 1 rfl) rfl
theorem tw_4_10 : Cond.methodLink RX3 51 yX3_mayStand ∈ TB := tb_of (tb_4 10 rfl) rfl
theorem tw_4_100 : Cond.fieldLink RX11 16 "ShadowCountModel" "readCloud" "[I" ∈ TB := tb_of (tb_4 100 rfl) rfl
theorem tw_4_101 : Cond.fieldLink RX11 19 "ShadowCountModel" "readSun" "[I" ∈ TB := tb_of (tb_4 101 rfl) rfl
theorem tw_4_102 : Cond.fieldLink RX11 103 "ShadowCountModel" "readBodies" "I" ∈ TB := tb_of (tb_4 102 rfl) rfl
theorem tw_4_103 : Cond.fieldLink RX11 116 "ShadowCountModel" "readHills" "I" ∈ TB := tb_of (tb_4 103 rfl) rfl
theorem tw_4_104 : Cond.fieldLink RX11 119 "ShadowCountModel" "readClouds" "I" ∈ TB := tb_of (tb_4 104 rfl) rfl
theorem tw_4_105 : Cond.fieldLink RX11 22 "ShadowCountModel" "body" "[I" ∈ TB := tb_of (tb_4 105 rfl) rfl
theorem tw_4_106 : Cond.fieldLink RX11 25 "ShadowCountModel" "hill" "[I" ∈ TB := tb_of (tb_4 106 rfl) rfl
theorem tw_4_107 : Cond.fieldLink RX11 28 "ShadowCountModel" "cloud" "[I" ∈ TB := tb_of (tb_4 107 rfl) rfl
theorem tw_4_108 : Cond.fieldLink RX11 31 "ShadowCountModel" "sun" "[I" ∈ TB := tb_of (tb_4 108 rfl) rfl
theorem tw_4_109 : Cond.fieldLink RX11 71 "ShadowCountModel" "bodies" "I" ∈ TB := tb_of (tb_4 109 rfl) rfl
theorem tw_4_11 : Cond.instanceMethod yX3_mayStand ∈ TB := tb_of (tb_4 11 rfl) rfl
theorem tw_4_110 : Cond.fieldLink RX11 141 "ShadowCountModel" "hills" "I" ∈ TB := tb_of (tb_4 110 rfl) rfl
theorem tw_4_111 : Cond.fieldLink RX11 144 "ShadowCountModel" "clouds" "I" ∈ TB := tb_of (tb_4 111 rfl) rfl
theorem tw_4_112 : Cond.fieldLink RX11 147 "ShadowCountModel" "cliffs" "I" ∈ TB := tb_of (tb_4 112 rfl) rfl
theorem tw_4_113 : Cond.fieldLink RX11 34 "ShadowCountModel" "text" "[I" ∈ TB := tb_of (tb_4 113 rfl) rfl
theorem tw_4_114 : Cond.fieldLink RX11 81 "ShadowCountModel" "length" "I" ∈ TB := tb_of (tb_4 114 rfl) rfl
theorem tw_4_115 : Cond.fieldLink RX11 89 "ShadowCountModel" "at" "I" ∈ TB := tb_of (tb_4 115 rfl) rfl
theorem tw_4_116 : Cond.fieldLink RX11 86 "ShadowCountModel" "faultAt" "I" ∈ TB := tb_of (tb_4 116 rfl) rfl
theorem tw_4_117 : Cond.fieldLink RX11 150 "ShadowCountModel" "acts" "I" ∈ TB := tb_of (tb_4 117 rfl) rfl
theorem tw_4_118 : Cond.fieldLink RX11 168 "ShadowCountModel" "next" "I" ∈ TB := tb_of (tb_4 118 rfl) rfl
theorem tw_4_119 : Cond.fieldLink RX11 37 "ShadowCountModel" "row" "[I" ∈ TB := tb_of (tb_4 119 rfl) rfl
theorem tw_4_12 : Cond.selects RX3 yX3_mayStand yX3_mayStand ∈ TB := tb_of (tb_4 12 rfl) rfl
theorem tw_4_120 : Cond.fieldLink RX11 40 "ShadowCountModel" "found" "[I" ∈ TB := tb_of (tb_4 120 rfl) rfl
theorem tw_4_121 : Cond.fieldLink RX11 223 "ShadowCountModel" "sights" "I" ∈ TB := tb_of (tb_4 121 rfl) rfl
theorem tw_4_122 : Cond.fieldLink RX11 43 "ShadowCountModel" "sightAt" "[I" ∈ TB := tb_of (tb_4 122 rfl) rfl
theorem tw_4_123 : Cond.fieldLink RX11 46 "ShadowCountModel" "sightCells" "[I" ∈ TB := tb_of (tb_4 123 rfl) rfl
theorem tw_4_124 : Cond.fieldLink RX11 49 "ShadowCountModel" "reaches" "[I" ∈ TB := tb_of (tb_4 124 rfl) rfl
theorem tw_4_125 : Cond.fieldLink RX11 229 "ShadowCountModel" "fitMany" "I" ∈ TB := tb_of (tb_4 125 rfl) rfl
theorem tw_4_126 : Cond.fieldLink RX11 232 "ShadowCountModel" "fitLeast" "I" ∈ TB := tb_of (tb_4 126 rfl) rfl
theorem tw_4_127 : Cond.fieldLink RX11 235 "ShadowCountModel" "fitMost" "I" ∈ TB := tb_of (tb_4 127 rfl) rfl
theorem tw_4_128 : Cond.fieldLink RX11 238 "ShadowCountModel" "fitSure" "I" ∈ TB := tb_of (tb_4 128 rfl) rfl
theorem tw_4_129 : Cond.fieldLink RX11 52 "ShadowCountModel" "shown" "[Z" ∈ TB := tb_of (tb_4 129 rfl) rfl
theorem tw_4_13 : Cond.code yX3_mayStand cX3_mayStand 3 (some .boolean) ∈ TB := tb_of (tb_4 13 rfl) rfl
theorem tw_4_130 : Cond.fieldLink RX11 56 "ShadowCountModel" "isKept" "[Z" ∈ TB := tb_of (tb_4 130 rfl) rfl
theorem tw_4_131 : Cond.fieldLink RX11 59 "ShadowCountModel" "keptBody" "[I" ∈ TB := tb_of (tb_4 131 rfl) rfl
theorem tw_4_132 : Cond.fieldLink RX11 62 "ShadowCountModel" "keptAt" "[I" ∈ TB := tb_of (tb_4 132 rfl) rfl
theorem tw_4_133 : Cond.fieldLink RX11 65 "ShadowCountModel" "keptCells" "[I" ∈ TB := tb_of (tb_4 133 rfl) rfl
theorem tw_4_134 : Cond.fieldLink RX11 68 "ShadowCountModel" "keptSights" "[I" ∈ TB := tb_of (tb_4 134 rfl) rfl
theorem tw_4_14 : Cond.constantLong RX3 69 (-1) ∈ TB := tb_of (tb_4 14 rfl) rfl
theorem tw_4_15 : Cond.methodLink RX3 55 yX3_tallest ∈ TB := tb_of (tb_4 15 rfl) rfl
theorem tw_4_16 : Cond.instanceMethod yX3_tallest ∈ TB := tb_of (tb_4 16 rfl) rfl
theorem tw_4_17 : Cond.selects RX3 yX3_tallest yX3_tallest ∈ TB := tb_of (tb_4 17 rfl) rfl
theorem tw_4_18 : Cond.code yX3_tallest cX3_tallest 2 (some .long) ∈ TB := tb_of (tb_4 18 rfl) rfl
theorem tw_4_19 : Cond.methodLink RX10 211 yX3_number ∈ TB := tb_of (tb_4 19 rfl) rfl
theorem tw_4_2 : Cond.instanceMethod yX3_prepare ∈ TB := tb_of (tb_4 2 rfl) rfl
theorem tw_4_20 : Cond.instanceMethod yX3_number ∈ TB := tb_of (tb_4 20 rfl) rfl
theorem tw_4_21 : Cond.selects RX3 yX3_number yX3_number ∈ TB := tb_of (tb_4 21 rfl) rfl
theorem tw_4_210 : Cond.arrayClass .boolean ∈ TB := tb_of (tb_4 210 rfl) rfl
theorem tw_4_215 : Cond.constantLong RX11 75 (8) ∈ TB := tb_of (tb_4 215 rfl) rfl
theorem tw_4_216 : Cond.methodLink RX11 77 yX11_in ∈ TB := tb_of (tb_4 216 rfl) rfl
theorem tw_4_217 : Cond.static yX11_in ∈ TB := tb_of (tb_4 217 rfl) rfl
theorem tw_4_218 : Cond.code yX11_in cX11_in 6 (some .boolean) ∈ TB := tb_of (tb_4 218 rfl) rfl
theorem tw_4_219 : Cond.constantLong RX11 84 (255) ∈ TB := tb_of (tb_4 219 rfl) rfl
theorem tw_4_22 : Cond.code yX3_number cX3_number 1 (some .int) ∈ TB := tb_of (tb_4 22 rfl) rfl
theorem tw_4_228 : Cond.methodLink RX11 138 yX11_readText ∈ TB := tb_of (tb_4 228 rfl) rfl
theorem tw_4_23 : Cond.methodLink RX3 71 yX3_waysToFill ∈ TB := tb_of (tb_4 23 rfl) rfl
theorem tw_4_230 : Cond.instanceMethod yX11_readText ∈ TB := tb_of (tb_4 230 rfl) rfl
theorem tw_4_231 : Cond.code yX11_readText cX11_readText 2 (some .int) ∈ TB := tb_of (tb_4 231 rfl) rfl
theorem tw_4_232 : Cond.methodLink RX11 122 yX11_readPart ∈ TB := tb_of (tb_4 232 rfl) rfl
theorem tw_4_234 : Cond.instanceMethod yX11_readPart ∈ TB := tb_of (tb_4 234 rfl) rfl
theorem tw_4_235 : Cond.code yX11_readPart cX11_readPart 4 none ∈ TB := tb_of (tb_4 235 rfl) rfl
theorem tw_4_236 : Cond.methodLink RX11 126 yX11_readBodyPart ∈ TB := tb_of (tb_4 236 rfl) rfl
theorem tw_4_238 : Cond.instanceMethod yX11_readBodyPart ∈ TB := tb_of (tb_4 238 rfl) rfl
theorem tw_4_239 : Cond.code yX11_readBodyPart cX11_readBodyPart 5 none ∈ TB := tb_of (tb_4 239 rfl) rfl
theorem tw_4_24 : Cond.static yX3_waysToFill ∈ TB := tb_of (tb_4 24 rfl) rfl
theorem tw_4_25 : Cond.code yX3_waysToFill cX3_waysToFill 5 (some .int) ∈ TB := tb_of (tb_4 25 rfl) rfl
theorem tw_4_26 : Cond.methodLinkNest RX3 75 yX10_isBelow RX10 ∈ TN := tn_of (tb_4 26 rfl) rfl
theorem tw_4_3 : Cond.selects RX3 yX3_prepare yX3_prepare ∈ TB := tb_of (tb_4 3 rfl) rfl
theorem tw_4_31 : Cond.methodLink RX10 214 yX3_exist ∈ TB := tb_of (tb_4 31 rfl) rfl
theorem tw_4_32 : Cond.instanceMethod yX3_exist ∈ TB := tb_of (tb_4 32 rfl) rfl
theorem tw_4_33 : Cond.selects RX3 yX3_exist yX3_exist ∈ TB := tb_of (tb_4 33 rfl) rfl
theorem tw_4_34 : Cond.code yX3_exist cX3_exist 1 (some .boolean) ∈ TB := tb_of (tb_4 34 rfl) rfl
theorem tw_4_35 : Cond.methodLink RX10 218 yX3_mostHeads ∈ TB := tb_of (tb_4 35 rfl) rfl
theorem tw_4_36 : Cond.instanceMethod yX3_mostHeads ∈ TB := tb_of (tb_4 36 rfl) rfl
theorem tw_4_37 : Cond.selects RX3 yX3_mostHeads yX3_mostHeads ∈ TB := tb_of (tb_4 37 rfl) rfl
theorem tw_4_38 : Cond.code yX3_mostHeads cX3_mostHeads 3 (some .int) ∈ TB := tb_of (tb_4 38 rfl) rfl
theorem tw_4_39 : Cond.methodLink RX10 221 yX3_fewestHeads ∈ TB := tb_of (tb_4 39 rfl) rfl
theorem tw_4_4 : Cond.code yX3_prepare cX3_prepare 3 none ∈ TB := tb_of (tb_4 4 rfl) rfl
theorem tw_4_40 : Cond.instanceMethod yX3_fewestHeads ∈ TB := tb_of (tb_4 40 rfl) rfl
theorem tw_4_41 : Cond.selects RX3 yX3_fewestHeads yX3_fewestHeads ∈ TB := tb_of (tb_4 41 rfl) rfl
theorem tw_4_42 : Cond.code yX3_fewestHeads cX3_fewestHeads 1 (some .int) ∈ TB := tb_of (tb_4 42 rfl) rfl
theorem tw_4_43 : Cond.methodLink RX3 79 yX3_fewestFrom ∈ TB := tb_of (tb_4 43 rfl) rfl
theorem tw_4_44 : Cond.static yX3_fewestFrom ∈ TB := tb_of (tb_4 44 rfl) rfl
theorem tw_4_45 : Cond.code yX3_fewestFrom cX3_fewestFrom 5 (some .int) ∈ TB := tb_of (tb_4 45 rfl) rfl
theorem tw_4_46 : Cond.methodLink RX3 82 Lib.Math.min.name ∈ TB := tb_of (tb_4 46 rfl) rfl
theorem tw_4_5 : Cond.methodLink RX3 47 yX3_shadowsOf ∈ TB := tb_of (tb_4 5 rfl) rfl
theorem tw_4_51 : Cond.methodLink RX10 224 yX3_surelyTaken ∈ TB := tb_of (tb_4 51 rfl) rfl
theorem tw_4_52 : Cond.instanceMethod yX3_surelyTaken ∈ TB := tb_of (tb_4 52 rfl) rfl
theorem tw_4_53 : Cond.selects RX3 yX3_surelyTaken yX3_surelyTaken ∈ TB := tb_of (tb_4 53 rfl) rfl
theorem tw_4_54 : Cond.code yX3_surelyTaken cX3_surelyTaken 3 (some .int) ∈ TB := tb_of (tb_4 54 rfl) rfl
theorem tw_4_55 : Cond.methodLink RX3 88 yX3_darkWithout ∈ TB := tb_of (tb_4 55 rfl) rfl
theorem tw_4_56 : Cond.instanceMethod yX3_darkWithout ∈ TB := tb_of (tb_4 56 rfl) rfl
theorem tw_4_57 : Cond.selects RX3 yX3_darkWithout yX3_darkWithout ∈ TB := tb_of (tb_4 57 rfl) rfl
theorem tw_4_58 : Cond.code yX3_darkWithout cX3_darkWithout 5 (some .long) ∈ TB := tb_of (tb_4 58 rfl) rfl
theorem tw_4_6 : Cond.static yX3_shadowsOf ∈ TB := tb_of (tb_4 6 rfl) rfl
theorem tw_4_63 : Cond.methodLink RX10 227 yX3_tellingMinute ∈ TB := tb_of (tb_4 63 rfl) rfl
theorem tw_4_64 : Cond.instanceMethod yX3_tellingMinute ∈ TB := tb_of (tb_4 64 rfl) rfl
theorem tw_4_65 : Cond.selects RX3 yX3_tellingMinute yX3_tellingMinute ∈ TB := tb_of (tb_4 65 rfl) rfl
theorem tw_4_66 : Cond.code yX3_tellingMinute cX3_tellingMinute 5 (some .int) ∈ TB := tb_of (tb_4 66 rfl) rfl
theorem tw_4_67 : Cond.methodLink RX3 91 yX3_unlikeRows ∈ TB := tb_of (tb_4 67 rfl) rfl
theorem tw_4_68 : Cond.instanceMethod yX3_unlikeRows ∈ TB := tb_of (tb_4 68 rfl) rfl
theorem tw_4_69 : Cond.selects RX3 yX3_unlikeRows yX3_unlikeRows ∈ TB := tb_of (tb_4 69 rfl) rfl
theorem tw_4_7 : Cond.code yX3_shadowsOf cX3_shadowsOf 6 (some .long) ∈ TB := tb_of (tb_4 7 rfl) rfl
theorem tw_4_70 : Cond.code yX3_unlikeRows cX3_unlikeRows 5 (some .int) ∈ TB := tb_of (tb_4 70 rfl) rfl
theorem tw_4_71 : Cond.methodLink RX3 95 yX3_mayShow ∈ TB := tb_of (tb_4 71 rfl) rfl
theorem tw_4_72 : Cond.instanceMethod yX3_mayShow ∈ TB := tb_of (tb_4 72 rfl) rfl
theorem tw_4_73 : Cond.selects RX3 yX3_mayShow yX3_mayShow ∈ TB := tb_of (tb_4 73 rfl) rfl
theorem tw_4_74 : Cond.code yX3_mayShow cX3_mayShow 6 (some .boolean) ∈ TB := tb_of (tb_4 74 rfl) rfl
theorem tw_4_79 : Cond.methodLink RX10 231 yX1_copyFrom ∈ TB := tb_of (tb_4 79 rfl) rfl
theorem tw_4_8 : Cond.fieldLinkNest RX3 59 "ShadowCount" "HEIGHT_OF_KIND" "[I" RX10 ∈ TN := tn_of (tb_4 8 rfl) rfl
theorem tw_4_80 : Cond.methodLink RX10 234 yX7_copyFrom ∈ TB := tb_of (tb_4 80 rfl) rfl
theorem tw_4_81 : Cond.instanceMethod yX7_copyFrom ∈ TB := tb_of (tb_4 81 rfl) rfl
theorem tw_4_82 : Cond.selects RX7 yX7_copyFrom yX7_copyFrom ∈ TB := tb_of (tb_4 82 rfl) rfl
theorem tw_4_83 : Cond.code yX7_copyFrom cX7_copyFrom 3 none ∈ TB := tb_of (tb_4 83 rfl) rfl
theorem tw_4_9 : Cond.methodLinkNest RX3 65 yX10_reach RX10 ∈ TN := tn_of (tb_4 9 rfl) rfl
theorem tw_4_97 : Cond.methodLink RX11 1 objectInit ∈ TB := tb_of (tb_4 97 rfl) rfl
theorem tw_4_98 : Cond.fieldLink RX11 7 "ShadowCountModel" "readBody" "[I" ∈ TB := tb_of (tb_4 98 rfl) rfl
theorem tw_4_99 : Cond.fieldLink RX11 13 "ShadowCountModel" "readHill" "[I" ∈ TB := tb_of (tb_4 99 rfl) rfl
theorem tw_5_0 : Cond.methodLink RX11 106 yX11_kindOf ∈ TB := tb_of (tb_5 0 rfl) rfl
theorem tw_5_1 : Cond.static yX11_kindOf ∈ TB := tb_of (tb_5 1 rfl) rfl
theorem tw_5_10 : Cond.code yX11_freeRows cX11_freeRows 4 (some .int) ∈ TB := tb_of (tb_5 10 rfl) rfl
theorem tw_5_101 : Cond.methodLink RX11 203 yX11_darkOf ∈ TB := tb_of (tb_5 101 rfl) rfl
theorem tw_5_103 : Cond.instanceMethod yX11_darkOf ∈ TB := tb_of (tb_5 103 rfl) rfl
theorem tw_5_104 : Cond.code yX11_darkOf cX11_darkOf 5 (some .int) ∈ TB := tb_of (tb_5 104 rfl) rfl
theorem tw_5_105 : Cond.methodLink RX11 193 yX11_reach ∈ TB := tb_of (tb_5 105 rfl) rfl
theorem tw_5_106 : Cond.static yX11_reach ∈ TB := tb_of (tb_5 106 rfl) rfl
theorem tw_5_107 : Cond.code yX11_reach cX11_reach 7 (some .int) ∈ TB := tb_of (tb_5 107 rfl) rfl
theorem tw_5_108 : Cond.methodLink RX11 197 yX11_lit ∈ TB := tb_of (tb_5 108 rfl) rfl
theorem tw_5_11 : Cond.methodLink RX11 113 yX11_sign ∈ TB := tb_of (tb_5 11 rfl) rfl
theorem tw_5_110 : Cond.instanceMethod yX11_lit ∈ TB := tb_of (tb_5 110 rfl) rfl
theorem tw_5_111 : Cond.code yX11_lit cX11_lit 6 (some .int) ∈ TB := tb_of (tb_5 111 rfl) rfl
theorem tw_5_116 : Cond.methodLink RX11 206 yX11_layRuns ∈ TB := tb_of (tb_5 116 rfl) rfl
theorem tw_5_118 : Cond.instanceMethod yX11_layRuns ∈ TB := tb_of (tb_5 118 rfl) rfl
theorem tw_5_119 : Cond.code yX11_layRuns cX11_layRuns 10 (some .int) ∈ TB := tb_of (tb_5 119 rfl) rfl
theorem tw_5_124 : Cond.constantLong RX11 209 (2) ∈ TB := tb_of (tb_5 124 rfl) rfl
theorem tw_5_13 : Cond.instanceMethod yX11_sign ∈ TB := tb_of (tb_5 13 rfl) rfl
theorem tw_5_133 : Cond.methodLink RX11 211 yX11_countedOf ∈ TB := tb_of (tb_5 133 rfl) rfl
theorem tw_5_135 : Cond.instanceMethod yX11_countedOf ∈ TB := tb_of (tb_5 135 rfl) rfl
theorem tw_5_136 : Cond.code yX11_countedOf cX11_countedOf 8 (some .int) ∈ TB := tb_of (tb_5 136 rfl) rfl
theorem tw_5_14 : Cond.code yX11_sign cX11_sign 4 (some .int) ∈ TB := tb_of (tb_5 14 rfl) rfl
theorem tw_5_141 : Cond.methodLink RX11 214 yX11_counts ∈ TB := tb_of (tb_5 141 rfl) rfl
theorem tw_5_143 : Cond.instanceMethod yX11_counts ∈ TB := tb_of (tb_5 143 rfl) rfl
theorem tw_5_144 : Cond.code yX11_counts cX11_counts 3 (some .int) ∈ TB := tb_of (tb_5 144 rfl) rfl
theorem tw_5_149 : Cond.methodLink RX11 217 yX11_isHidden ∈ TB := tb_of (tb_5 149 rfl) rfl
theorem tw_5_15 : Cond.constantLong RX11 92 (48) ∈ TB := tb_of (tb_5 15 rfl) rfl
theorem tw_5_151 : Cond.instanceMethod yX11_isHidden ∈ TB := tb_of (tb_5 151 rfl) rfl
theorem tw_5_152 : Cond.code yX11_isHidden cX11_isHidden 9 (some .boolean) ∈ TB := tb_of (tb_5 152 rfl) rfl
theorem tw_5_157 : Cond.constantLong RX11 221 (1023) ∈ TB := tb_of (tb_5 157 rfl) rfl
theorem tw_5_16 : Cond.constantLong RX11 94 (57) ∈ TB := tb_of (tb_5 16 rfl) rfl
theorem tw_5_166 : Cond.methodLink RX11 248 yX11_layFits ∈ TB := tb_of (tb_5 166 rfl) rfl
theorem tw_5_168 : Cond.instanceMethod yX11_layFits ∈ TB := tb_of (tb_5 168 rfl) rfl
theorem tw_5_169 : Cond.code yX11_layFits cX11_layFits 4 none ∈ TB := tb_of (tb_5 169 rfl) rfl
theorem tw_5_17 : Cond.constantLong RX11 96 (97) ∈ TB := tb_of (tb_5 17 rfl) rfl
theorem tw_5_170 : Cond.constant RX11 241 (59049) ∈ TB := tb_of (tb_5 170 rfl) rfl
theorem tw_5_171 : Cond.methodLink RX11 242 yX11_isFit ∈ TB := tb_of (tb_5 171 rfl) rfl
theorem tw_5_173 : Cond.instanceMethod yX11_isFit ∈ TB := tb_of (tb_5 173 rfl) rfl
theorem tw_5_174 : Cond.code yX11_isFit cX11_isFit 4 (some .boolean) ∈ TB := tb_of (tb_5 174 rfl) rfl
theorem tw_5_175 : Cond.methodLink RX11 226 yX11_rowDark ∈ TB := tb_of (tb_5 175 rfl) rfl
theorem tw_5_177 : Cond.instanceMethod yX11_rowDark ∈ TB := tb_of (tb_5 177 rfl) rfl
theorem tw_5_178 : Cond.code yX11_rowDark cX11_rowDark 6 (some .int) ∈ TB := tb_of (tb_5 178 rfl) rfl
theorem tw_5_179 : Cond.methodLink RX11 245 yX11_layFit ∈ TB := tb_of (tb_5 179 rfl) rfl
theorem tw_5_18 : Cond.constantLong RX11 98 (102) ∈ TB := tb_of (tb_5 18 rfl) rfl
theorem tw_5_181 : Cond.instanceMethod yX11_layFit ∈ TB := tb_of (tb_5 181 rfl) rfl
theorem tw_5_182 : Cond.code yX11_layFit cX11_layFit 6 none ∈ TB := tb_of (tb_5 182 rfl) rfl
theorem tw_5_19 : Cond.methodLink RX11 129 yX11_bits ∈ TB := tb_of (tb_5 19 rfl) rfl
theorem tw_5_2 : Cond.code yX11_kindOf cX11_kindOf 1 (some .int) ∈ TB := tb_of (tb_5 2 rfl) rfl
theorem tw_5_20 : Cond.static yX11_bits ∈ TB := tb_of (tb_5 20 rfl) rfl
theorem tw_5_208 : Cond.fieldLink RJ0 15 "java/lang/String" "coder" "B" ∈ TB := tb_of (tb_5 208 rfl) rfl
theorem tw_5_209 : Cond.fieldLink RJ0 9 "java/lang/String" "value" "[B" ∈ TB := tb_of (tb_5 209 rfl) rfl
theorem tw_5_21 : Cond.code yX11_bits cX11_bits 2 (some .int) ∈ TB := tb_of (tb_5 21 rfl) rfl
theorem tw_5_22 : Cond.methodLink RX11 133 yX11_untold ∈ TB := tb_of (tb_5 22 rfl) rfl
theorem tw_5_24 : Cond.instanceMethod yX11_untold ∈ TB := tb_of (tb_5 24 rfl) rfl
theorem tw_5_25 : Cond.code yX11_untold cX11_untold 3 (some .int) ∈ TB := tb_of (tb_5 25 rfl) rfl
theorem tw_5_26 : Cond.constant RX11 137 (65535) ∈ TB := tb_of (tb_5 26 rfl) rfl
theorem tw_5_3 : Cond.methodLink RX11 100 yX11_fail ∈ TB := tb_of (tb_5 3 rfl) rfl
theorem tw_5_35 : Cond.methodLink RX11 153 yX11_isBody ∈ TB := tb_of (tb_5 35 rfl) rfl
theorem tw_5_37 : Cond.instanceMethod yX11_isBody ∈ TB := tb_of (tb_5 37 rfl) rfl
theorem tw_5_38 : Cond.code yX11_isBody cX11_isBody 2 (some .boolean) ∈ TB := tb_of (tb_5 38 rfl) rfl
theorem tw_5_39 : Cond.methodLink RX11 157 yX11_highOf ∈ TB := tb_of (tb_5 39 rfl) rfl
theorem tw_5_40 : Cond.static yX11_highOf ∈ TB := tb_of (tb_5 40 rfl) rfl
theorem tw_5_41 : Cond.code yX11_highOf cX11_highOf 1 (some .int) ∈ TB := tb_of (tb_5 41 rfl) rfl
theorem tw_5_42 : Cond.methodLink RX11 160 yX11_manyOf ∈ TB := tb_of (tb_5 42 rfl) rfl
theorem tw_5_43 : Cond.static yX11_manyOf ∈ TB := tb_of (tb_5 43 rfl) rfl
theorem tw_5_44 : Cond.code yX11_manyOf cX11_manyOf 1 (some .int) ∈ TB := tb_of (tb_5 44 rfl) rfl
theorem tw_5_49 : Cond.methodLink RX11 163 yX11_isHill ∈ TB := tb_of (tb_5 49 rfl) rfl
theorem tw_5_5 : Cond.instanceMethod yX11_fail ∈ TB := tb_of (tb_5 5 rfl) rfl
theorem tw_5_51 : Cond.instanceMethod yX11_isHill ∈ TB := tb_of (tb_5 51 rfl) rfl
theorem tw_5_52 : Cond.code yX11_isHill cX11_isHill 2 (some .boolean) ∈ TB := tb_of (tb_5 52 rfl) rfl
theorem tw_5_53 : Cond.constantLong RX11 166 (3) ∈ TB := tb_of (tb_5 53 rfl) rfl
theorem tw_5_58 : Cond.constantLong RX11 173 (5) ∈ TB := tb_of (tb_5 58 rfl) rfl
theorem tw_5_59 : Cond.methodLink RX11 175 yX11_isCell ∈ TB := tb_of (tb_5 59 rfl) rfl
theorem tw_5_6 : Cond.code yX11_fail cX11_fail 1 none ∈ TB := tb_of (tb_5 6 rfl) rfl
theorem tw_5_60 : Cond.static yX11_isCell ∈ TB := tb_of (tb_5 60 rfl) rfl
theorem tw_5_61 : Cond.code yX11_isCell cX11_isCell 2 (some .boolean) ∈ TB := tb_of (tb_5 61 rfl) rfl
theorem tw_5_62 : Cond.constantLong RX11 171 (9) ∈ TB := tb_of (tb_5 62 rfl) rfl
theorem tw_5_63 : Cond.methodLink RX11 179 yX11_isTaken ∈ TB := tb_of (tb_5 63 rfl) rfl
theorem tw_5_65 : Cond.instanceMethod yX11_isTaken ∈ TB := tb_of (tb_5 65 rfl) rfl
theorem tw_5_66 : Cond.code yX11_isTaken cX11_isTaken 5 (some .boolean) ∈ TB := tb_of (tb_5 66 rfl) rfl
theorem tw_5_67 : Cond.methodLink RX11 182 yX11_keepAct ∈ TB := tb_of (tb_5 67 rfl) rfl
theorem tw_5_69 : Cond.instanceMethod yX11_keepAct ∈ TB := tb_of (tb_5 69 rfl) rfl
theorem tw_5_7 : Cond.methodLink RX11 110 yX11_freeRows ∈ TB := tb_of (tb_5 7 rfl) rfl
theorem tw_5_70 : Cond.code yX11_keepAct cX11_keepAct 2 none ∈ TB := tb_of (tb_5 70 rfl) rfl
theorem tw_5_75 : Cond.methodLink RX11 185 yX11_without ∈ TB := tb_of (tb_5 75 rfl) rfl
theorem tw_5_76 : Cond.static yX11_without ∈ TB := tb_of (tb_5 76 rfl) rfl
theorem tw_5_77 : Cond.code yX11_without cX11_without 1 (some .int) ∈ TB := tb_of (tb_5 77 rfl) rfl
theorem tw_5_9 : Cond.instanceMethod yX11_freeRows ∈ TB := tb_of (tb_5 9 rfl) rfl
theorem tw_5_90 : Cond.methodLink RX11 200 yX11_isMinute ∈ TB := tb_of (tb_5 90 rfl) rfl
theorem tw_5_91 : Cond.static yX11_isMinute ∈ TB := tb_of (tb_5 91 rfl) rfl
theorem tw_5_92 : Cond.code yX11_isMinute cX11_isMinute 1 (some .boolean) ∈ TB := tb_of (tb_5 92 rfl) rfl
theorem tw_5_93 : Cond.constantLong RX11 188 (15) ∈ TB := tb_of (tb_5 93 rfl) rfl
theorem tw_5_94 : Cond.methodLink RX11 190 yX11_longAt ∈ TB := tb_of (tb_5 94 rfl) rfl
theorem tw_5_95 : Cond.static yX11_longAt ∈ TB := tb_of (tb_5 95 rfl) rfl
theorem tw_5_96 : Cond.code yX11_longAt cX11_longAt 2 (some .int) ∈ TB := tb_of (tb_5 96 rfl) rfl
end
section
/-! CONSTRUCTORS: cells come; their addresses are given by u -/
def z0 : ST := (fun _ => 0, fun _ _ => 0, fun _ => 0, fun _ _ => 0)
def RN (d mc ms : Nat) : Room := { frames := d, cells := mc, slots := ms, locals := 40 * d }
abbrev AU : Type := Nat → Nat → Nat
def QN (G : GP) (q : Nat) (w' : AU → List va_W) (A : Nat → Prop) : Array Value → State → Outcome → State → Prop := fun _ st oc t => (oc = .returned none ∧ ∃ u : AU, u 0 0 = q ∧ va_P G.1 vwCl (List.flatten (w' u)) t.heap ∧ va_D A (List.flatten (w' u))) ∧ va_F A st t
def CN (l : Launch) (G : GP) (y : MethodName) (cc : ByteArray) (d mc ms : Nat) (q : Nat) (w : va_W) (w' : AU → List va_W) : Prop :=
  ∀ sz : Nat, Met l y (Cond.code y cc 1 none :: TB) (RN d mc ms) (Cp G [.ref q] w sz) (QN G q w' (va_A w sz)) mc ms (va_A w sz)
def QM (below : List Frame) (G : GP) (args : Array Value) (s : State) (q : Nat) (w' : AU → List va_W) (mc ms : Nat) (A : Nat → Prop) : State → Prop := MQ below (QN G q w' A) args s mc ms A
theorem CN.of {l : Launch} {G : GP} {y : MethodName} {cc : ByteArray} {d mc ms q : Nat} {w : va_W} {w' : AU → List va_W} (hy : plainName y.cls = true)
    (body : ∀ (p : Program) (e : Env) (s : State) (m : MethodId) (below : List Frame) (meth : Method) (c : Code) (A : Nat → Prop), Cx p s m meth c G cc y.cls 1 none #[.ref q] A → meth.name = y.name → va_P G.1 vwCl w s.heap → va_D A w → va_S A s.heap s.heap [] → ∀ ls : Array Slot, lv_has ls 1 [(0, .ref q)] →
      W p l e (RN d mc ms) s m #[.ref q] below meth c s.heap [] 0 0 (QM below G #[.ref q] s q w' mc ms A) (F0 m 0 ls [])) : CN l G y cc d mc ms q w w' := by
  intro sz
  refine Met.ofW (cc := cc) (maxL := 1) (ret := none) hy rfl ?_
  intro p e s m args below meth c s₁ B hml hv
  obtain ⟨rfl, hsz, hP, hG, hD0⟩ := hv
  subst hsz
  have hts := atoms_spec (ws := Cond.code y cc 1 none :: TB) B.pre
  rw [lg_entry_eq]
  exact body p e s m below meth c (va_A w s.heap.size) ⟨B.exec, B.bytes, B.returns, hml, fun w hw => hts w (List.mem_cons_of_mem _ hw), findClass_of_methodNamed B.named, B.notSynchronized, fun q h => Or.inr h, hG⟩ (name_of_methodNamed B.named B.method).1 hP hD0.self va_S.rf _ (lv_entry [.ref q] (Nat.le_of_ble_eq_true rfl))
theorem ca_eq {G : GP} {U : State} {cA : ClassId} {ty : FieldType} (k : Nat) {c0 : ClassId} (hk : (tysG G)[k]? = some (c0, ty)) (hK : va_K G.1 vwCl (tysG G ++ [(cA, ty)]) U) (hr : ∀ c : ClassId, va_RA U c ty → U.vm.findClass ("[" ++ ty.toString) = some c) : cA = c0 := by
  have h1 := (hK.2 6 (cA, ty) rfl).2
  have h2 := (hK.2 k (c0, ty) (by
    have hl := (List.getElem?_eq_some_iff.mp hk).1
    rw [List.getElem?_append_left hl]
    exact hk)).2
  exact Option.some.inj ((hr cA h1).symm.trans (hr c0 h2))
theorem fl_snoc {D : va_G} {cl : List vw_C} {Ws : List va_W} {c : Nat × va_E} {H : Heap} (h : va_P D cl (List.flatten Ws ++ [c]) H) : va_P D cl (List.flatten (Ws ++ [[c]])) H := by
  rw [List.flatten_append]
  simpa using h
theorem fl_snocD {A : Nat → Prop} {Ws : List va_W} {c : Nat × va_E} (h : va_D A (List.flatten Ws ++ [c])) : va_D A (List.flatten (Ws ++ [[c]])) := by
  rw [List.flatten_append]
  simpa using h
section CON
variable {p : Program} {l : Launch} {e : Env} {R : Room} {s : State} {m : MethodId} {args : Array Value} {below : List Frame} {meth : Method} {c : Code} {H : Heap} {locs : List Loc} {cells slots : Nat} {Q : State → Prop}
variable {G : GP} {cc cc' : ByteArray} {own : String} {nL index d pc mc ms : Nat} {ret : Option FieldType} {A : Nat → Prop} {ls : Array Slot} {rest : List Value} {pre : List va_W} {w' : AU → List va_W} {y : MethodName} {b q ci : Nat} {fs : List Value}
theorem rt_n0 (K : Cx p s m meth c G cc own nL none args A) (u : AU) (hu : u 0 0 = q) (hP : va_P G.1 vwCl (List.flatten (w' u)) H) (hD : va_D A (List.flatten (w' u))) (hS : va_S A s.heap H locs) (hdg : decode cc pc = .ok (.return_, 1)) :
    W p l e R s m args below meth c H locs cells slots (QM below G args s q w' cells slots A) (F0 m pc ls []) := by
  obtain ⟨hx, hb, hr, -, -, -, hlocks, -, -⟩ := K
  exact W.vret hx hb hr (fun t ht _ => ⟨⟨rfl, u, hu, by rw [ht]; exact hP, hD⟩, hS.F ht⟩) hS.2.2 hdg hlocks
theorem nw_join {w1 : List va_W} {H1 : Heap} (hP : va_P G.1 vwCl (List.flatten (pre ++ [[(b, .inr (ci, fs))]])) H) (hD : va_D A (List.flatten (pre ++ [[(b, .inr (ci, fs))]]))) (hF : ∀ q, va_A [(b, .inr (ci, fs))] H.size q → A q)
    (hk : ∀ q : Nat, q < H.size → ¬ va_A [(b, .inr (ci, fs))] H.size q → H1[q]? = H[q]?) (hP1 : va_P G.1 vwCl (List.flatten w1) H1) (hD1 : va_D (va_A [(b, .inr (ci, fs))] H.size) (List.flatten w1)) : va_P G.1 vwCl (List.flatten (pre ++ w1)) H1 ∧ va_D A (List.flatten (pre ++ w1)) := by
  rw [List.flatten_append] at hP hD ⊢
  have h0 := P_iff.mp hP
  have hd := D_iff.mp hD
  have hd1 := D_iff.mp hD1
  have hpw := List.pairwise_append.mp hd.1
  have out : ∀ x ∈ List.flatten pre, x.1 < H.size ∧ ¬ va_A [(b, .inr (ci, fs))] H.size x.1 := fun x hx => by
    have hl := (h0 x (List.mem_append_left _ hx)).lt
    refine ⟨hl, fun h => ?_⟩
    rcases h with ⟨k, e, h⟩ | h
    · have hm := List.mem_of_getElem? h
      have hb : (x.1, e) = (b, .inr (ci, fs)) := by simpa using hm
      exact hpw.2.2 x hx (b, .inr (ci, fs)) (by simp) (by cases hb; rfl)
    · omega
  refine ⟨P_iff.mpr (fun x hx => ?_), D_iff.mpr ⟨List.pairwise_append.mpr ⟨hpw.1, hd1.1, fun x hx z hz e => ?_⟩, fun x hx => ?_⟩⟩
  · rcases List.mem_append.mp hx with h | h
    · exact (h0 x (List.mem_append_left _ h)).kept (hk x.1 (out x h).1 (out x h).2)
    · exact P_iff.mp hP1 x h
  · exact (out x hx).2 (by rw [e]; exact hd1.2 z hz)
  · rcases List.mem_append.mp hx with h | h
    · exact hd.2 x (List.mem_append_left _ h)
    · exact hF x.1 (hd1.2 x h)
theorem va_callN {a : Array Value} {A0 A1 : Nat → Prop} {H0 : Heap} {free : Addr → Prop} {st0 : List Value} (hr : va_Run p l e R s m args below meth c H locs cells slots mc ms (F0 m pc ls st0) rest (QN G q w' A1 a) free) (hS : va_S A0 H0 H locs) (hA : ∀ q, q < H.size → A1 q → A0 q) (hf : ∀ q, free q → A0 q)
    (kk : ∀ (u : AU) (H1 : Heap) (locs1 : List Loc), u 0 0 = q → va_P G.1 vwCl (List.flatten (w' u)) H1 → va_D A1 (List.flatten (w' u)) → (∀ q : Nat, q < H.size → ¬ A1 q → H1[q]? = H[q]?) → va_S A0 H0 H1 locs1 → W p l e R s m args below meth c H1 locs1 (cells + mc) (slots + ms) Q (F0 m (pc + 3) ls rest)) : W p l e R s m args below meth c H locs cells slots Q (F0 m pc ls st0) := by
  intro T hT X
  obtain ⟨v, st₀, t, T', L, h0, X', hL, e1, e2, ⟨⟨hv, u, hu, hp, hd⟩, hz, hk⟩, st⟩ := hr T hT X
  cases hv
  rw [h0] at hz hk
  obtain ⟨t2, a1, b1⟩ := kk u T'.heap (locs ++ L) hu (by rw [e1]; exact hp) hd (fun q h1 h2 => by rw [e1]; exact hk q h1 h2)
    ⟨Nat.le_trans hS.1 (by rw [e1]; exact hz), fun q h1 h2 => by rw [e1, hk q (Nat.lt_of_lt_of_le h1 hS.1) (fun z => h2 (hA q (Nat.lt_of_lt_of_le h1 hS.1) z))]; exact hS.2.1 q h1 h2, fun q hq => by
      rcases List.mem_append.mp hq with h | h
      · exact hS.2.2 q h
      · exact hf _ (hL q h)⟩ T' rfl X'
  exact ⟨t2, st t2 a1, b1⟩
theorem nw_free (hD : va_D A (List.flatten (pre ++ [[(b, .inr (ci, fs))]]))) (hS : va_S A s.heap H locs) (hA : ∀ q : Nat, s.heap.size ≤ q → A q) : ∀ q, va_A [(b, .inr (ci, fs))] H.size q → A q := by
  intro q h
  rcases h with ⟨k, e, h⟩ | h
  · have hm := List.mem_of_getElem? h
    refine (D_iff.mp hD).2 (q, e) ?_
    rw [List.flatten_append]
    exact List.mem_append_right _ (by simpa using hm)
  · exact hA q (Nat.le_trans hS.1 h)
theorem nw_pre (K : Cx p s m meth c G cc own nL ret args A) (hP : va_P G.1 vwCl (List.flatten (pre ++ [[(b, .inr (ci, fs))]])) H) (hD : va_D A (List.flatten (pre ++ [[(b, .inr (ci, fs))]]))) (hS : va_S A s.heap H locs) : PreS s H (Cp G [.ref b] [(b, .inr (ci, fs))] H.size) [.ref b] :=
  ⟨Cp.blind, fun U hU hW => ⟨rfl, by rw [hU], by
    rw [hU]
    refine P_iff.mpr (fun x hx => P_iff.mp hP x ?_)
    rw [List.flatten_append]
    exact List.mem_append_right _ (by simpa using hx), K.2.2.2.2.2.2.2.2.go hS hU hW (nw_free hD hS K.2.2.2.2.2.2.2.1), D_iff.mpr ⟨by simp, fun _ _ => trivial⟩⟩⟩
theorem ln_IN {host : String} (K : Cx p s m meth c G cc own nL ret args A) (hM : CN l G y cc' d mc ms b [(b, .inr (ci, fs))] w') (hcode : Cond.code y cc' 1 none ∈ TB) (hini : Cond.initialized y.cls ∈ TB) (hin : Cond.instanceMethod y ∈ TB) (hlink : Cond.methodLinkNest own index y host ∈ TN) (hy1 : y.name = "<init>") (hd : CallD y 0) (hR : CallR R d 1)
    (hP : va_P G.1 vwCl (List.flatten (pre ++ [[(b, .inr (ci, fs))]])) H) (hD : va_D A (List.flatten (pre ++ [[(b, .inr (ci, fs))]]))) (hS : va_S A s.heap H locs)
    (hsize : ls.size = nL) (hW : (rest.map fun v => v.category).sum ≤ 8) (hf : cells + mc ≤ R.cells ∧ slots + ms ≤ R.slots) (hdg : decode cc pc = .ok (.invokespecial index, 3))
    (kk : ∀ (u : AU) (H1 : Heap) (locs1 : List Loc), u 0 0 = b → va_P G.1 vwCl (List.flatten (pre ++ w' u)) H1 → va_D A (List.flatten (pre ++ w' u)) → va_S A s.heap H1 locs1 → W p l e R s m args below meth c H1 locs1 (cells + mc) (slots + ms) Q (F0 m (pc + 3) ls rest)) : W p l e R s m args below meth c H locs cells slots Q (F0 m pc ls (.ref b :: rest)) := by
  have K0 := K
  obtain ⟨hx, hb, hr, hml, hts, hown, hlocks, hA, hG⟩ := K
  have hF := nw_free hD hS hA
  refine va_callN (va_runIN (As := []) ⟨hx, hb, hml, hown, hts⟩ (hM H.size) ⟨va_cnB 0 hts (tb_goodIn hcode) rfl rfl rfl (hG.2.1 _ hlink) (hts _ hini) hd hR, hy1, hts _ hin⟩ (nw_pre K0 hP hD hS) rfl rfl hsize rfl (lv_room hW) hdg hf) hS (fun q _ h => hF q h) hF (fun u H1 locs1 hu hP1 hD1 hk hS1 => ?_)
  obtain ⟨a1, a2⟩ := nw_join hP hD hF hk hP1 hD1
  exact kk u H1 locs1 hu a1 a2 hS1
theorem ln_I (K : Cx p s m meth c G cc own nL ret args A) (hM : CN l G y cc' d mc ms b [(b, .inr (ci, fs))] w') (hcode : Cond.code y cc' 1 none ∈ TB) (hini : Cond.initialized y.cls ∈ TB) (hin : Cond.instanceMethod y ∈ TB) (hlink : Cond.methodLink own index y ∈ TB) (hy1 : y.name = "<init>") (hd : CallD y 0) (hR : CallR R d 1)
    (hP : va_P G.1 vwCl (List.flatten (pre ++ [[(b, .inr (ci, fs))]])) H) (hD : va_D A (List.flatten (pre ++ [[(b, .inr (ci, fs))]]))) (hS : va_S A s.heap H locs)
    (hsize : ls.size = nL) (hW : (rest.map fun v => v.category).sum ≤ 8) (hf : cells + mc ≤ R.cells ∧ slots + ms ≤ R.slots) (hdg : decode cc pc = .ok (.invokespecial index, 3))
    (kk : ∀ (u : AU) (H1 : Heap) (locs1 : List Loc), u 0 0 = b → va_P G.1 vwCl (List.flatten (pre ++ w' u)) H1 → va_D A (List.flatten (pre ++ w' u)) → va_S A s.heap H1 locs1 → W p l e R s m args below meth c H1 locs1 (cells + mc) (slots + ms) Q (F0 m (pc + 3) ls rest)) : W p l e R s m args below meth c H locs cells slots Q (F0 m pc ls (.ref b :: rest)) := by
  have K0 := K
  obtain ⟨hx, hb, hr, hml, hts, hown, hlocks, hA, hG⟩ := K
  have hF := nw_free hD hS hA
  refine va_callN (va_runI (As := []) ⟨hx, hb, hml, hown, hts⟩ (hM H.size) ⟨callB_of 0 hts (tb_goodIn hcode) rfl rfl rfl (hts _ hini) (hts _ hlink) hd hR, hy1, hts _ hin⟩ (nw_pre K0 hP hD hS) rfl rfl hsize rfl (lv_room hW) hdg hf) hS (fun q _ h => hF q h) hF (fun u H1 locs1 hu hP1 hD1 hk hS1 => ?_)
  obtain ⟨a1, a2⟩ := nw_join hP hD hF hk hP1 hD1
  exact kk u H1 locs1 hu a1 a2 hS1
end CON
end
section
/-! ===== BEGIN new T[n][m]: the outer array a place, the inner ones among the pooled ===== -/
/-- f, but v at every address of l -/
def vr_up {α : Type} (f : Nat → α) (l : List Nat) (v : α) : Nat → α := fun a => if a ∈ l then v else f a
theorem vr_up_in {α : Type} {f : Nat → α} {l : List Nat} {v : α} {a : Nat} (h : a ∈ l) : vr_up f l v a = v := if_pos h
theorem vr_up_ne {α : Type} {f : Nat → α} {l : List Nat} {v : α} {a : Nat} (h : a ∉ l) : vr_up f l v a = f a := if_neg h
theorem vr_rows {L l : List Nat} {f : Nat → va_E} {e : va_E} (h : ∀ a, a ∈ l → a ∉ L) : va_pl L f ++ l.map (fun a => (a, e)) = va_pl (L ++ l) (vr_up f l e) := by
  unfold va_pl
  rw [List.map_append]
  congr 1
  · apply List.map_congr_left
    intro a ha
    rw [vr_up_ne (fun q => h a q ha)]
  · apply List.map_congr_left
    intro a ha
    rw [vr_up_in ha]
theorem vr_lay {X rows : va_W} {x : Nat × va_E} {pl : va_W} {D : va_G} {cl : List vw_C} {H : Heap} (hP : va_P D cl (((X ++ pl) ++ [x]) ++ rows) H) : va_P D cl ((X ++ [x]) ++ (pl ++ rows)) H := by
  rw [List.append_assoc (X ++ pl)] at hP
  have h := va_P.swap hP
  rw [← List.append_assoc X] at h
  have h2 := va_P.swap h
  rw [List.append_assoc (X ++ [x])] at h2
  exact h2
theorem vr_layD {X rows : va_W} {x : Nat × va_E} {pl : va_W} {A : Nat → Prop} (hD : va_D A (((X ++ pl) ++ [x]) ++ rows)) : va_D A ((X ++ [x]) ++ (pl ++ rows)) := by
  rw [List.append_assoc (X ++ pl)] at hD
  have h := va_D.swap hD
  rw [← List.append_assoc X] at h
  have h2 := va_D.swap h
  rw [List.append_assoc (X ++ [x])] at h2
  exact h2
theorem vr_outer (c : ClassId) (N h0 : Nat) : ∀ i : Nat, Jvm.Free.Multi.outerC c N h0 i = arrV c N (fun j => va_rf (if j < i then some (h0 + 1 + j) else none))
  | 0 => by
    show ({ cls := c, slots := Array.replicate N .null, vm := .none } : Cell) = _
    rw [arrV_new]
    refine congrArg (arrV c N) (funext fun j => ?_)
    simp [va_rf]
  | i + 1 => by
    show (Jvm.Free.Multi.outerC c N h0 i).setSlot i (.ref (h0 + 1 + i)) = _
    rw [vr_outer c N h0 i, arrV_store]
    refine congrArg (arrV c N) (funext fun j => ?_)
    by_cases e : j = i
    · subst e
      simp [updV, va_rf]
    · by_cases h : j < i
      · simp [updV, e, h, Nat.lt_succ_of_lt h]
      · simp [updV, e, h, show ¬ j < i + 1 by omega]
section VGM
variable {p : Program} {l : Launch} {e : Env} {R : Room} {s : State} {m : MethodId} {args : Array Value} {below : List Frame} {meth : Method} {c : Code} {H : Heap} {locs : List Loc} {cells slots : Nat} {Q : State → Prop}
variable {cc : ByteArray} {pc : Nat} {ls : Array Slot} {rest : List Value} {D : va_G} {cl : List vw_C} {A : Nat → Prop} {a : Nat} {tys : List (ClassId × FieldType)} {ws : va_W} {H0 : Heap}
theorem va_mna {X : va_W} {L : List Nat} {f : Nat → va_E} {cc : ByteArray} (hexec : p.tables.exec = Jvm.exec) (hb : c.code = cc) {own : String} {index : Nat} {ty : FieldType} {cy : ClassId} (hown : s.vm.findClass own = some m.cls) (hclink : (Cond.classLink own index ("[" ++ (FieldType.array ty).toString)).before args s = true) (hover : va_AOA ty s) (harr : (Cond.arrayClass ty).before args s = true) (hcy : s.vm.findClass (FieldType.array ty).toString = some cy)
    (hK : va_K D cl tys s) (hP : va_P D cl (X ++ va_pl L f) H) (hD : va_D A (X ++ va_pl L f)) (hS : va_S A H0 H locs) (hA : ∀ q, H0.size ≤ q → A q) {n k : Int32} {N' K' : Nat} {z : vp_A} (hn : ¬ n < 0) (hk : ¬ k < 0) (hN : n.toNatClampNeg = N') (hM : k.toNatClampNeg = K')
    (hb1 : N' * 4 ≤ 536870912) (hb2 : K' * componentBytes ty ≤ 536870912) (hb3 : K' ≤ 536870912) (hdf : fits ty (defaultValue ty) = true) (hdd : (defaultValue ty).isDefault = true) (hcells : cells + (1 + N') ≤ R.cells) (hslots : slots + (N' + N' * K') ≤ R.slots) (hz : ∀ c : ClassId, Jvm.Free.Multi.innerC c K' (defaultValue ty) = vp_cell c z) (hdg : decode cc pc = .ok (.multianewarray index 2, 4))
    (kk : ∀ (q : Nat) (r : Nat → Nat) (cA : ClassId) (H1 : Heap), (∀ i j : Nat, i < N' → j < N' → r i = r j → i = j) → (∀ i : Nat, i < N' → r i ∉ L) → va_K D cl (tys ++ [(cA, .array ty)]) s →
      va_P D cl ((X ++ [(q, .inl (cA, N', .inr (.inr (.inr (.inr (fun i => if i < N' then some (r i) else none))))))]) ++ va_pl (L ++ (List.range N').map r) (vr_up f ((List.range N').map r) (.inl (cy, z)))) H1 → va_D A ((X ++ [(q, .inl (cA, N', .inr (.inr (.inr (.inr (fun i => if i < N' then some (r i) else none))))))]) ++ va_pl (L ++ (List.range N').map r) (vr_up f ((List.range N').map r) (.inl (cy, z)))) → va_S A H0 H1 locs →
      W p l e R s m args below meth c H1 locs (cells + 1 + N') (slots + N' + N' * K') Q (F0 m (pc + 4) ls (.ref q :: rest))) : W p l e R s m args below meth c H locs cells slots Q (F0 m pc ls (.int k :: .int n :: rest)) := by
  subst hN
  subst hM
  intro T hT Xs
  obtain ⟨vm₁, cA, comp, -, fA, fC, hO, -, X', step⟩ := Xs.multianewarray2F hexec hown hclink (va_AOA.use hover) harr (g := F0 m pc ls (.int k :: .int n :: rest)) rfl (by rw [hb]; exact hdg) rfl hn hk hb1 hb2 hb3 hdf hdd hcells hslots
  have ec : some cy = some comp := hcy.symm.trans fC
  cases ec
  generalize hF : Jvm.Free.Multi.fill (T.setVm vm₁) cA cy n.toNatClampNeg k.toNatClampNeg (defaultValue ty) n.toNatClampNeg = F at X' step
  have hTh : (T.setVm vm₁).heap = H := hT
  obtain ⟨f1, f2, -, -⟩ := Jvm.Free.Multi.fill_facts (T.setVm vm₁) cA cy n.toNatClampNeg k.toNatClampNeg (defaultValue ty) n.toNatClampNeg
  rw [hF, hTh] at f1 f2
  have hold : ∀ x : Nat, x < H.size → F.heap[x]? = H[x]? := fun x hx => by
    have := Jvm.Free.Multi.fill_old (T.setVm vm₁) cA cy n.toNatClampNeg k.toNatClampNeg (defaultValue ty) (a := x) (by rw [hTh]; exact hx) n.toNatClampNeg
    rw [hF, hTh] at this
    exact this
  have hrow : ∀ j : Nat, j < n.toNatClampNeg → F.heap[H.size + 1 + j]? = some (vp_cell cy z) := fun j hj => by
    have := Jvm.Free.Multi.fill_inner (T.setVm vm₁) cA cy n.toNatClampNeg k.toNatClampNeg (defaultValue ty) n.toNatClampNeg j hj
    rw [hF, hTh, hz] at this
    exact this
  have hout : Jvm.Free.Multi.outerC cA n.toNatClampNeg H.size n.toNatClampNeg = vp_cell cA (n.toNatClampNeg, .inr (.inr (.inr (.inr (fun i => if i < n.toNatClampNeg then some (H.size + 1 + i) else none))))) := by
    rw [vp_cell_q]
    exact vr_outer cA n.toNatClampNeg H.size n.toNatClampNeg
  rw [hout] at f2
  have hlt : ∀ a, a ∈ L → a < H.size := fun a ha => by
    obtain ⟨k9, hk9⟩ := va_pl_get (X := X) (f := f) ha
    exact (hP k9 _ hk9).lt
  have hnl : ∀ i : Nat, i < n.toNatClampNeg → H.size + 1 + i ∉ L := fun i _ h => by
    have := hlt _ h
    omega
  have hnm : ∀ a, a ∈ (List.range n.toNatClampNeg).map (fun i => H.size + 1 + i) → a ∉ L := fun a ha h => by
    obtain ⟨i, -, rfl⟩ := List.mem_map.mp ha
    have := hlt _ h
    omega
  have hP0 : va_P D cl (X ++ va_pl L f) F.heap := hP.kept (fun k9 x hx => hold x.1 ((hP k9 x hx).lt))
  have hP1 : va_P D cl ((X ++ va_pl L f) ++ [(H.size, .inl (cA, n.toNatClampNeg, .inr (.inr (.inr (.inr (fun i => if i < n.toNatClampNeg then some (H.size + 1 + i) else none))))))]) F.heap := hP0.app (fun k9 x hx => by
    have h0 : k9 < 1 := (List.getElem?_eq_some_iff.mp hx).1
    rw [show k9 = 0 by omega] at hx
    cases hx
    exact f2)
  have hP2 : va_P D cl (((X ++ va_pl L f) ++ [(H.size, .inl (cA, n.toNatClampNeg, .inr (.inr (.inr (.inr (fun i => if i < n.toNatClampNeg then some (H.size + 1 + i) else none))))))]) ++ ((List.range n.toNatClampNeg).map (fun i => H.size + 1 + i)).map (fun a => (a, .inl (cy, z)))) F.heap := hP1.app (fun k9 x hx => by
    obtain ⟨a, ha, rfl⟩ := List.mem_map.mp (List.mem_of_getElem? hx)
    obtain ⟨i, hi, rfl⟩ := List.mem_map.mp ha
    exact hrow i (List.mem_range.mp hi))
  have hD2 : va_D A (((X ++ va_pl L f) ++ [(H.size, .inl (cA, n.toNatClampNeg, .inr (.inr (.inr (.inr (fun i => if i < n.toNatClampNeg then some (H.size + 1 + i) else none))))))]) ++ ((List.range n.toNatClampNeg).map (fun i => H.size + 1 + i)).map (fun a => (a, .inl (cy, z)))) := by
    have hD1 := hD.push (e := .inl (cA, n.toNatClampNeg, .inr (.inr (.inr (.inr (fun i => if i < n.toNatClampNeg then some (H.size + 1 + i) else none)))))) hP rfl (hA _ hS.1)
    generalize hW1 : (X ++ va_pl L f) ++ [(H.size, .inl (cA, n.toNatClampNeg, .inr (.inr (.inr (.inr (fun i => if i < n.toNatClampNeg then some (H.size + 1 + i) else none))))))] = W1 at hD1 hP1 ⊢
    have hle : ∀ (k9 : Nat) (x : Nat × va_E), W1[k9]? = some x → x.1 ≤ H.size := fun k9 x hx => by
      rw [← hW1] at hx
      by_cases hl : k9 < (X ++ va_pl L f).length
      · rw [List.getElem?_append_left hl] at hx
        exact Nat.le_of_lt ((hP k9 x hx).lt)
      · rw [List.getElem?_append_right (by omega)] at hx
        have h0 : k9 - (X ++ va_pl L f).length < 1 := (List.getElem?_eq_some_iff.mp hx).1
        rw [show k9 - (X ++ va_pl L f).length = 0 by omega] at hx
        cases hx
        exact Nat.le_refl _
    have hr : ∀ (k9 : Nat) (x : Nat × va_E), (((List.range n.toNatClampNeg).map (fun i => H.size + 1 + i)).map (fun a => ((a, .inl (cy, z)) : Nat × va_E)))[k9]? = some x → x.1 = H.size + 1 + k9 := fun k9 x hx => by
      rw [List.getElem?_map, List.getElem?_map] at hx
      by_cases h9 : k9 < n.toNatClampNeg
      · rw [List.getElem?_range h9] at hx
        cases hx
        rfl
      · have hn0 : (List.range n.toNatClampNeg)[k9]? = none := List.getElem?_eq_none (by rw [List.length_range]; omega)
        rw [hn0] at hx
        cases hx
    refine ⟨fun i j x y hi hj hxy => ?_, fun k9 x hx => ?_⟩
    · by_cases h1 : i < W1.length <;> by_cases h2 : j < W1.length
      · rw [List.getElem?_append_left h1] at hi
        rw [List.getElem?_append_left h2] at hj
        exact hD1.1 i j x y hi hj hxy
      · rw [List.getElem?_append_left h1] at hi
        rw [List.getElem?_append_right (by omega)] at hj
        have := hle _ _ hi
        have := hr _ _ hj
        omega
      · rw [List.getElem?_append_right (by omega)] at hi
        rw [List.getElem?_append_left h2] at hj
        have := hle _ _ hj
        have := hr _ _ hi
        omega
      · rw [List.getElem?_append_right (by omega)] at hi hj
        have := hr _ _ hi
        have := hr _ _ hj
        omega
    · by_cases h1 : k9 < W1.length
      · rw [List.getElem?_append_left h1] at hx
        exact hD1.2 k9 x hx
      · rw [List.getElem?_append_right (by omega)] at hx
        have := hr _ _ hx
        exact hA _ (by have := hS.1; omega)
  have hAr : ArrOfT s cA (.array ty) := fun N9 z9 => by
    obtain ⟨-, k9, hk9, cm9, hkk9⟩ := (hO 0 0 0).1
    exact ⟨(fun q hq => by cases hq), k9, hk9, cm9, hkk9⟩
  have hK2 : va_K D cl (tys ++ [(cA, .array ty)]) s := ⟨hK.1, fun k9 x hx => by
    by_cases hl : k9 < tys.length
    · rw [List.getElem?_append_left hl] at hx
      exact hK.2 k9 x hx
    · rw [List.getElem?_append_right (by omega)] at hx
      have h0 : k9 - tys.length < 1 := (List.getElem?_eq_some_iff.mp hx).1
      rw [show k9 - tys.length = 0 by omega] at hx
      cases hx
      exact ⟨hAr, fA⟩⟩
  obtain ⟨t, a1, b1⟩ := kk H.size (fun i => H.size + 1 + i) cA F.heap (fun i j _ _ h => by have h9 : H.size + 1 + i = H.size + 1 + j := h; omega) hnl hK2 (by rw [← vr_rows hnm]; exact vr_lay hP2) (by rw [← vr_rows hnm]; exact vr_layD hD2) ⟨by rw [f1]; have := hS.1; omega, fun x h1 h2 => (hold x (Nat.lt_of_lt_of_le h1 hS.1)).trans (hS.2.1 x h1 h2), hS.2.2⟩ F rfl X'
  refine ⟨t, step t ?_, b1⟩
  have e : T.heap.size = H.size := by rw [hT]
  rw [e]
  exact a1
end VGM
/-! ===== END ===== -/
theorem ca_eqO {G : GP} {U : State} {cA : ClassId} (k : Nat) {c0 : ClassId} (hk : (tysG G)[k]? = some (c0, .object RX8)) (hK : va_K G.1 vwCl (tysG G ++ [(cA, .object RX8)]) U) : cA = c0 :=
  ca_eq k hk hK (fun _ h => by obtain ⟨_, _, _, _, _, h⟩ := h; exact h)
theorem mv_last {D : va_G} {cl : List vw_C} {a b : Nat × va_E} {x1 x2 x3 : va_W} {H : Heap} (h : va_P D cl (List.flatten [[a], x1, x2, x3, [b]]) H) : va_P D cl (List.flatten [[a, b], x1, x2, x3]) H := by
  rw [P_iff] at h ⊢
  intro q hq
  refine h q ?_
  simp only [List.flatten_cons, List.flatten_nil, List.mem_append, List.mem_cons, List.not_mem_nil, or_false, false_or, List.append_nil] at hq ⊢
  rcases hq with (h | h) | h | h | h <;> simp [h]
theorem mv_lastD {A : Nat → Prop} {a b : Nat × va_E} {x1 x2 x3 : va_W} (h : va_D A (List.flatten [[a], x1, x2, x3, [b]])) : va_D A (List.flatten [[a, b], x1, x2, x3]) := by
  rw [D_iff] at h ⊢
  obtain ⟨h1, h2⟩ := h
  have hp : (List.flatten [[a], x1, x2, x3, [b]]).Perm (List.flatten [[a, b], x1, x2, x3]) := by
    simp only [List.flatten_cons, List.flatten_nil, List.append_nil, List.cons_append, List.nil_append]
    refine List.Perm.cons a ?_
    rw [← List.append_assoc, ← List.append_assoc]
    refine (List.perm_append_comm).trans ?_
    simp [List.append_assoc]
  refine ⟨hp.pairwise h1 (fun {x y} hxy e => hxy e.symm), fun q hq => h2 q (hp.mem_iff.mpr hq)⟩
section MNA
variable {p : Program} {l : Launch} {e : Env} {R : Room} {s : State} {m : MethodId} {args : Array Value} {below : List Frame} {meth : Method} {c : Code} {H : Heap} {locs : List Loc} {cells slots : Nat} {Q : State → Prop}
variable {cc : ByteArray} {pc : Nat} {ls : Array Slot} {rest : List Value} {D : va_G} {cl : List vw_C} {A : Nat → Prop} {tys : List (ClassId × FieldType)} {Ws : List va_W} {H0 : Heap}
theorem my_mna {own : String} {index : Nat} {ty : FieldType} {cy : ClassId} (hexec : p.tables.exec = Jvm.exec) (hb : c.code = cc) (hown : s.vm.findClass own = some m.cls) (hclink : (Cond.classLink own index ("[" ++ (FieldType.array ty).toString)).before args s = true) (hover : va_AOA ty s) (harr : (Cond.arrayClass ty).before args s = true) (hcy : s.vm.findClass (FieldType.array ty).toString = some cy)
    (hK : va_K D cl tys s) (hP : va_P D cl (List.flatten Ws) H) (hD : va_D A (List.flatten Ws)) (hS : va_S A H0 H locs) (hA : ∀ q, H0.size ≤ q → A q) {n k : Int32} {N' K' : Nat} {z : vp_A} (hn : ¬ n < 0) (hk : ¬ k < 0) (hN : n.toNatClampNeg = N') (hM : k.toNatClampNeg = K')
    (hb1 : N' * 4 ≤ 536870912) (hb2 : K' * componentBytes ty ≤ 536870912) (hb3 : K' ≤ 536870912) (hdf : fits ty (defaultValue ty) = true) (hdd : (defaultValue ty).isDefault = true) (hcells : cells + (1 + N') ≤ R.cells) (hslots : slots + (N' + N' * K') ≤ R.slots) (hz : ∀ c : ClassId, Jvm.Free.Multi.innerC c K' (defaultValue ty) = vp_cell c z) (hdg : decode cc pc = .ok (.multianewarray index 2, 4))
    (kk : ∀ (q : Nat) (r : Nat → Nat) (cA : ClassId) (H1 : Heap), va_K D cl (tys ++ [(cA, .array ty)]) s →
      va_P D cl (List.flatten (Ws ++ [[(q, .inl (cA, N', .inr (.inr (.inr (.inr (fun i => if i < N' then some (r i) else none))))))], (List.range N').map (fun i => (r i, .inl (cy, z)))])) H1 → va_D A (List.flatten (Ws ++ [[(q, .inl (cA, N', .inr (.inr (.inr (.inr (fun i => if i < N' then some (r i) else none))))))], (List.range N').map (fun i => (r i, .inl (cy, z)))])) → va_S A H0 H1 locs →
      W p l e R s m args below meth c H1 locs (cells + (1 + N')) (slots + (N' + N' * K')) Q (F0 m (pc + 4) ls (.ref q :: rest))) : W p l e R s m args below meth c H locs cells slots Q (F0 m pc ls (.int k :: .int n :: rest)) := by
  refine va_mna (X := List.flatten Ws) (L := []) (f := fun _ => .inl (cy, z)) hexec hb hown hclink hover harr hcy hK (by simpa [va_pl] using hP) (by simpa [va_pl] using hD) hS hA hn hk hN hM hb1 hb2 hb3 hdf hdd hcells hslots hz hdg (fun q r cA H1 _ _ hK1 hP1 hD1 hS1 => ?_)
  have e1 : va_pl ([] ++ (List.range N').map r) (vr_up (fun _ => (.inl (cy, z) : va_E)) ((List.range N').map r) (.inl (cy, z))) = (List.range N').map (fun i => (r i, .inl (cy, z))) := by
    unfold va_pl
    rw [List.nil_append, List.map_map]
    apply List.map_congr_left
    intro i hi
    show (r i, vr_up _ _ _ (r i)) = _
    rw [vr_up_in (List.mem_map.mpr ⟨i, hi, rfl⟩)]
  rw [e1] at hP1 hD1
  have := kk q r cA H1 hK1 (by rw [List.flatten_append]; simpa [List.append_assoc] using hP1) (by rw [List.flatten_append]; simpa [List.append_assoc] using hD1) hS1
  rw [← Nat.add_assoc, ← Nat.add_assoc] at this
  exact this
end MNA

theorem cdX0_init : CallD yX0_init 0 := by decide +kernel
set_option maxHeartbeats 4000000 in
set_option maxRecDepth 100000 in
theorem nX0 (l : Launch) (G : GP) (q : Nat) : CN l G yX0_init cX0_init 2 5 80 q [(q, .inr (0, [.null, .null, .null, .null, .null, .int 0, .int 0]))] (fun u => [wA G (u 0) z0]) := by
  refine CN.of (by decide) ?_
  intro p e s m below meth c A K hin hP hD hS ls hl
  obtain ⟨hx, hb, hr, hml, hts, hown, hlocks, hA, hG⟩ := id K
  have hP : va_P G.1 vwCl (List.flatten [[(q, .inr (0, [.null, .null, .null, .null, .null, .int 0, .int 0]))]]) s.heap := hP
  have hD : va_D A (List.flatten [[(q, .inr (0, [.null, .null, .null, .null, .null, .int 0, .int 0]))]]) := hD
  refine lv_aload_n hx hb dX0_init_0 rfl (lv_at hl 0 rfl) ?_
  refine W.objInit hx hb hown (hts _ tw_1_159) (hts _ tw_1_26) (hts _ tw_1_27) rfl (by rw [hml]; exact hl.1) rfl dX0_init_1 (Nat.le_of_ble_eq_true rfl) (Nat.le_of_ble_eq_true rfl) ?_
  refine W.eq (g2 := F0 m 4 ls []) rfl ?_
  refine lv_aload_n hx hb dX0_init_4 rfl (lv_at hl 0 rfl) ?_
  refine lv_bipush (v := 16) hx hb dX0_init_5 lb_16 ?_
  refine va_newa (atype := .int) (ty := .int) (a0 := (16, .inl (fun _ => 0))) hx hb (hts _ tw_1_87) rfl hG.1 hP hD hS hA (fun _ => rfl) (by decide) (by decide) (by decide) (Nat.le_of_ble_eq_true rfl) (Nat.le_of_ble_eq_true rfl) dX0_init_7 (fun q1 cA H hK1 hP hD hS => ?_)
  have eA := ca_eq 0 rfl hK1 (fun _ h => h)
  subst eA
  have hP : va_P G.1 vwCl (List.flatten [[(q, .inr (0, [.null, .null, .null, .null, .null, .int 0, .int 0]))], [(q1, .inl (G.2.1 0, 16, .inl (fun _ => 0)))]]) H := fl_snoc hP
  have hD : va_D A (List.flatten [[(q, .inr (0, [.null, .null, .null, .null, .null, .int 0, .int 0]))], [(q1, .inl (G.2.1 0, 16, .inl (fun _ => 0)))]]) := fl_snocD hD
  refine va_putF (D := G.1) (cl := vwCl) (tys := tysG G) (ci := 0) (v := .ref q1) (ty := .array .int) (C := RX0) (T := TX0) (N := 7) hx hb hts iX0 tyX0 tyX0_ok nmX0 hown hG.1 hP hD hS 0 rfl rfl 0 (Nat.le_of_ble_eq_true rfl) (hts _ tw_1_160) (fun _ h9 => h9) rfl hin rfl (by decide +kernel) rfl rfl (Nat.le_of_ble_eq_true rfl) dX0_init_9 (fun H locs hP hD hS => ?_)
  have hP : va_P G.1 vwCl (List.flatten [[(q, .inr (0, [.ref q1, .null, .null, .null, .null, .int 0, .int 0]))], [(q1, .inl (G.2.1 0, 16, .inl (fun _ => 0)))]]) H := hP
  have hD : va_D A (List.flatten [[(q, .inr (0, [.ref q1, .null, .null, .null, .null, .int 0, .int 0]))], [(q1, .inl (G.2.1 0, 16, .inl (fun _ => 0)))]]) := hD
  refine lv_aload_n hx hb dX0_init_12 rfl (lv_at hl 0 rfl) ?_
  refine lv_bipush (v := 16) hx hb dX0_init_13 lb_16 ?_
  refine va_newa (atype := .int) (ty := .int) (a0 := (16, .inl (fun _ => 0))) hx hb (hts _ tw_1_87) rfl hG.1 hP hD hS hA (fun _ => rfl) (by decide) (by decide) (by decide) (Nat.le_of_ble_eq_true rfl) (Nat.le_of_ble_eq_true rfl) dX0_init_15 (fun q2 cA H hK1 hP hD hS => ?_)
  have eA := ca_eq 0 rfl hK1 (fun _ h => h)
  subst eA
  have hP : va_P G.1 vwCl (List.flatten [[(q, .inr (0, [.ref q1, .null, .null, .null, .null, .int 0, .int 0]))], [(q1, .inl (G.2.1 0, 16, .inl (fun _ => 0)))], [(q2, .inl (G.2.1 0, 16, .inl (fun _ => 0)))]]) H := fl_snoc hP
  have hD : va_D A (List.flatten [[(q, .inr (0, [.ref q1, .null, .null, .null, .null, .int 0, .int 0]))], [(q1, .inl (G.2.1 0, 16, .inl (fun _ => 0)))], [(q2, .inl (G.2.1 0, 16, .inl (fun _ => 0)))]]) := fl_snocD hD
  refine va_putF (D := G.1) (cl := vwCl) (tys := tysG G) (ci := 0) (v := .ref q2) (ty := .array .int) (C := RX0) (T := TX0) (N := 7) hx hb hts iX0 tyX0 tyX0_ok nmX0 hown hG.1 hP hD hS 0 rfl rfl 1 (Nat.le_of_ble_eq_true rfl) (hts _ tw_1_161) (fun _ h9 => h9) rfl hin rfl (by decide +kernel) rfl rfl (Nat.le_of_ble_eq_true rfl) dX0_init_17 (fun H locs hP hD hS => ?_)
  have hP : va_P G.1 vwCl (List.flatten [[(q, .inr (0, [.ref q1, .ref q2, .null, .null, .null, .int 0, .int 0]))], [(q1, .inl (G.2.1 0, 16, .inl (fun _ => 0)))], [(q2, .inl (G.2.1 0, 16, .inl (fun _ => 0)))]]) H := hP
  have hD : va_D A (List.flatten [[(q, .inr (0, [.ref q1, .ref q2, .null, .null, .null, .int 0, .int 0]))], [(q1, .inl (G.2.1 0, 16, .inl (fun _ => 0)))], [(q2, .inl (G.2.1 0, 16, .inl (fun _ => 0)))]]) := hD
  refine lv_aload_n hx hb dX0_init_20 rfl (lv_at hl 0 rfl) ?_
  refine lv_bipush (v := 16) hx hb dX0_init_21 lb_16 ?_
  refine va_newa (atype := .int) (ty := .int) (a0 := (16, .inl (fun _ => 0))) hx hb (hts _ tw_1_87) rfl hG.1 hP hD hS hA (fun _ => rfl) (by decide) (by decide) (by decide) (Nat.le_of_ble_eq_true rfl) (Nat.le_of_ble_eq_true rfl) dX0_init_23 (fun q3 cA H hK1 hP hD hS => ?_)
  have eA := ca_eq 0 rfl hK1 (fun _ h => h)
  subst eA
  have hP : va_P G.1 vwCl (List.flatten [[(q, .inr (0, [.ref q1, .ref q2, .null, .null, .null, .int 0, .int 0]))], [(q1, .inl (G.2.1 0, 16, .inl (fun _ => 0)))], [(q2, .inl (G.2.1 0, 16, .inl (fun _ => 0)))], [(q3, .inl (G.2.1 0, 16, .inl (fun _ => 0)))]]) H := fl_snoc hP
  have hD : va_D A (List.flatten [[(q, .inr (0, [.ref q1, .ref q2, .null, .null, .null, .int 0, .int 0]))], [(q1, .inl (G.2.1 0, 16, .inl (fun _ => 0)))], [(q2, .inl (G.2.1 0, 16, .inl (fun _ => 0)))], [(q3, .inl (G.2.1 0, 16, .inl (fun _ => 0)))]]) := fl_snocD hD
  refine va_putF (D := G.1) (cl := vwCl) (tys := tysG G) (ci := 0) (v := .ref q3) (ty := .array .int) (C := RX0) (T := TX0) (N := 7) hx hb hts iX0 tyX0 tyX0_ok nmX0 hown hG.1 hP hD hS 0 rfl rfl 2 (Nat.le_of_ble_eq_true rfl) (hts _ tw_1_162) (fun _ h9 => h9) rfl hin rfl (by decide +kernel) rfl rfl (Nat.le_of_ble_eq_true rfl) dX0_init_25 (fun H locs hP hD hS => ?_)
  have hP : va_P G.1 vwCl (List.flatten [[(q, .inr (0, [.ref q1, .ref q2, .ref q3, .null, .null, .int 0, .int 0]))], [(q1, .inl (G.2.1 0, 16, .inl (fun _ => 0)))], [(q2, .inl (G.2.1 0, 16, .inl (fun _ => 0)))], [(q3, .inl (G.2.1 0, 16, .inl (fun _ => 0)))]]) H := hP
  have hD : va_D A (List.flatten [[(q, .inr (0, [.ref q1, .ref q2, .ref q3, .null, .null, .int 0, .int 0]))], [(q1, .inl (G.2.1 0, 16, .inl (fun _ => 0)))], [(q2, .inl (G.2.1 0, 16, .inl (fun _ => 0)))], [(q3, .inl (G.2.1 0, 16, .inl (fun _ => 0)))]]) := hD
  refine lv_aload_n hx hb dX0_init_28 rfl (lv_at hl 0 rfl) ?_
  refine lv_bipush (v := 16) hx hb dX0_init_29 lb_16 ?_
  refine va_newa (atype := .int) (ty := .int) (a0 := (16, .inl (fun _ => 0))) hx hb (hts _ tw_1_87) rfl hG.1 hP hD hS hA (fun _ => rfl) (by decide) (by decide) (by decide) (Nat.le_of_ble_eq_true rfl) (Nat.le_of_ble_eq_true rfl) dX0_init_31 (fun q4 cA H hK1 hP hD hS => ?_)
  have eA := ca_eq 0 rfl hK1 (fun _ h => h)
  subst eA
  have hP : va_P G.1 vwCl (List.flatten [[(q, .inr (0, [.ref q1, .ref q2, .ref q3, .null, .null, .int 0, .int 0]))], [(q1, .inl (G.2.1 0, 16, .inl (fun _ => 0)))], [(q2, .inl (G.2.1 0, 16, .inl (fun _ => 0)))], [(q3, .inl (G.2.1 0, 16, .inl (fun _ => 0)))], [(q4, .inl (G.2.1 0, 16, .inl (fun _ => 0)))]]) H := fl_snoc hP
  have hD : va_D A (List.flatten [[(q, .inr (0, [.ref q1, .ref q2, .ref q3, .null, .null, .int 0, .int 0]))], [(q1, .inl (G.2.1 0, 16, .inl (fun _ => 0)))], [(q2, .inl (G.2.1 0, 16, .inl (fun _ => 0)))], [(q3, .inl (G.2.1 0, 16, .inl (fun _ => 0)))], [(q4, .inl (G.2.1 0, 16, .inl (fun _ => 0)))]]) := fl_snocD hD
  refine va_putF (D := G.1) (cl := vwCl) (tys := tysG G) (ci := 0) (v := .ref q4) (ty := .array .int) (C := RX0) (T := TX0) (N := 7) hx hb hts iX0 tyX0 tyX0_ok nmX0 hown hG.1 hP hD hS 0 rfl rfl 3 (Nat.le_of_ble_eq_true rfl) (hts _ tw_1_163) (fun _ h9 => h9) rfl hin rfl (by decide +kernel) rfl rfl (Nat.le_of_ble_eq_true rfl) dX0_init_33 (fun H locs hP hD hS => ?_)
  have hP : va_P G.1 vwCl (List.flatten [[(q, .inr (0, [.ref q1, .ref q2, .ref q3, .ref q4, .null, .int 0, .int 0]))], [(q1, .inl (G.2.1 0, 16, .inl (fun _ => 0)))], [(q2, .inl (G.2.1 0, 16, .inl (fun _ => 0)))], [(q3, .inl (G.2.1 0, 16, .inl (fun _ => 0)))], [(q4, .inl (G.2.1 0, 16, .inl (fun _ => 0)))]]) H := hP
  have hD : va_D A (List.flatten [[(q, .inr (0, [.ref q1, .ref q2, .ref q3, .ref q4, .null, .int 0, .int 0]))], [(q1, .inl (G.2.1 0, 16, .inl (fun _ => 0)))], [(q2, .inl (G.2.1 0, 16, .inl (fun _ => 0)))], [(q3, .inl (G.2.1 0, 16, .inl (fun _ => 0)))], [(q4, .inl (G.2.1 0, 16, .inl (fun _ => 0)))]]) := hD
  refine lv_aload_n hx hb dX0_init_36 rfl (lv_at hl 0 rfl) ?_
  refine lv_bipush (v := 16) hx hb dX0_init_37 lb_16 ?_
  refine va_newa (atype := .int) (ty := .int) (a0 := (16, .inl (fun _ => 0))) hx hb (hts _ tw_1_87) rfl hG.1 hP hD hS hA (fun _ => rfl) (by decide) (by decide) (by decide) (Nat.le_of_ble_eq_true rfl) (Nat.le_of_ble_eq_true rfl) dX0_init_39 (fun q5 cA H hK1 hP hD hS => ?_)
  have eA := ca_eq 0 rfl hK1 (fun _ h => h)
  subst eA
  have hP : va_P G.1 vwCl (List.flatten [[(q, .inr (0, [.ref q1, .ref q2, .ref q3, .ref q4, .null, .int 0, .int 0]))], [(q1, .inl (G.2.1 0, 16, .inl (fun _ => 0)))], [(q2, .inl (G.2.1 0, 16, .inl (fun _ => 0)))], [(q3, .inl (G.2.1 0, 16, .inl (fun _ => 0)))], [(q4, .inl (G.2.1 0, 16, .inl (fun _ => 0)))], [(q5, .inl (G.2.1 0, 16, .inl (fun _ => 0)))]]) H := fl_snoc hP
  have hD : va_D A (List.flatten [[(q, .inr (0, [.ref q1, .ref q2, .ref q3, .ref q4, .null, .int 0, .int 0]))], [(q1, .inl (G.2.1 0, 16, .inl (fun _ => 0)))], [(q2, .inl (G.2.1 0, 16, .inl (fun _ => 0)))], [(q3, .inl (G.2.1 0, 16, .inl (fun _ => 0)))], [(q4, .inl (G.2.1 0, 16, .inl (fun _ => 0)))], [(q5, .inl (G.2.1 0, 16, .inl (fun _ => 0)))]]) := fl_snocD hD
  refine va_putF (D := G.1) (cl := vwCl) (tys := tysG G) (ci := 0) (v := .ref q5) (ty := .array .int) (C := RX0) (T := TX0) (N := 7) hx hb hts iX0 tyX0 tyX0_ok nmX0 hown hG.1 hP hD hS 0 rfl rfl 4 (Nat.le_of_ble_eq_true rfl) (hts _ tw_1_164) (fun _ h9 => h9) rfl hin rfl (by decide +kernel) rfl rfl (Nat.le_of_ble_eq_true rfl) dX0_init_41 (fun H locs hP hD hS => ?_)
  have hP : va_P G.1 vwCl (List.flatten [[(q, .inr (0, [.ref q1, .ref q2, .ref q3, .ref q4, .ref q5, .int 0, .int 0]))], [(q1, .inl (G.2.1 0, 16, .inl (fun _ => 0)))], [(q2, .inl (G.2.1 0, 16, .inl (fun _ => 0)))], [(q3, .inl (G.2.1 0, 16, .inl (fun _ => 0)))], [(q4, .inl (G.2.1 0, 16, .inl (fun _ => 0)))], [(q5, .inl (G.2.1 0, 16, .inl (fun _ => 0)))]]) H := hP
  have hD : va_D A (List.flatten [[(q, .inr (0, [.ref q1, .ref q2, .ref q3, .ref q4, .ref q5, .int 0, .int 0]))], [(q1, .inl (G.2.1 0, 16, .inl (fun _ => 0)))], [(q2, .inl (G.2.1 0, 16, .inl (fun _ => 0)))], [(q3, .inl (G.2.1 0, 16, .inl (fun _ => 0)))], [(q4, .inl (G.2.1 0, 16, .inl (fun _ => 0)))], [(q5, .inl (G.2.1 0, 16, .inl (fun _ => 0)))]]) := hD
  exact rt_n0 K (fun _ k => match k with | 0 => q | 1 => q1 | 2 => q2 | 3 => q3 | 4 => q4 | 5 => q5 | _ => 0) rfl hP hD hS dX0_init_44
theorem cdX1_init : CallD yX1_init 0 := by decide +kernel
set_option maxHeartbeats 4000000 in
set_option maxRecDepth 100000 in
theorem nX1 (l : Launch) (G : GP) (q : Nat) : CN l G yX1_init cX1_init 2 3 24 q [(q, .inr (1, [.null, .null, .null, .int 0]))] (fun u => [wB G (u 0) z0]) := by
  refine CN.of (by decide) ?_
  intro p e s m below meth c A K hin hP hD hS ls hl
  obtain ⟨hx, hb, hr, hml, hts, hown, hlocks, hA, hG⟩ := id K
  have hP : va_P G.1 vwCl (List.flatten [[(q, .inr (1, [.null, .null, .null, .int 0]))]]) s.heap := hP
  have hD : va_D A (List.flatten [[(q, .inr (1, [.null, .null, .null, .int 0]))]]) := hD
  refine lv_aload_n hx hb dX1_init_0 rfl (lv_at hl 0 rfl) ?_
  refine W.objInit hx hb hown (hts _ tw_1_62) (hts _ tw_1_26) (hts _ tw_1_27) rfl (by rw [hml]; exact hl.1) rfl dX1_init_1 (Nat.le_of_ble_eq_true rfl) (Nat.le_of_ble_eq_true rfl) ?_
  refine W.eq (g2 := F0 m 4 ls []) rfl ?_
  refine lv_aload_n hx hb dX1_init_4 rfl (lv_at hl 0 rfl) ?_
  refine lv_bipush (v := 8) hx hb dX1_init_5 lb_8 ?_
  refine va_newa (atype := .int) (ty := .int) (a0 := (8, .inl (fun _ => 0))) hx hb (hts _ tw_1_87) rfl hG.1 hP hD hS hA (fun _ => rfl) (by decide) (by decide) (by decide) (Nat.le_of_ble_eq_true rfl) (Nat.le_of_ble_eq_true rfl) dX1_init_7 (fun q1 cA H hK1 hP hD hS => ?_)
  have eA := ca_eq 0 rfl hK1 (fun _ h => h)
  subst eA
  have hP : va_P G.1 vwCl (List.flatten [[(q, .inr (1, [.null, .null, .null, .int 0]))], [(q1, .inl (G.2.1 0, 8, .inl (fun _ => 0)))]]) H := fl_snoc hP
  have hD : va_D A (List.flatten [[(q, .inr (1, [.null, .null, .null, .int 0]))], [(q1, .inl (G.2.1 0, 8, .inl (fun _ => 0)))]]) := fl_snocD hD
  refine va_putF (D := G.1) (cl := vwCl) (tys := tysG G) (ci := 1) (v := .ref q1) (ty := .array .int) (C := RX1) (T := TX1) (N := 4) hx hb hts iX1 tyX1 tyX1_ok nmX1 hown hG.1 hP hD hS 0 rfl rfl 0 (Nat.le_of_ble_eq_true rfl) (hts _ tw_1_63) (fun _ h9 => h9) rfl hin rfl (by decide +kernel) rfl rfl (Nat.le_of_ble_eq_true rfl) dX1_init_9 (fun H locs hP hD hS => ?_)
  have hP : va_P G.1 vwCl (List.flatten [[(q, .inr (1, [.ref q1, .null, .null, .int 0]))], [(q1, .inl (G.2.1 0, 8, .inl (fun _ => 0)))]]) H := hP
  have hD : va_D A (List.flatten [[(q, .inr (1, [.ref q1, .null, .null, .int 0]))], [(q1, .inl (G.2.1 0, 8, .inl (fun _ => 0)))]]) := hD
  refine lv_aload_n hx hb dX1_init_12 rfl (lv_at hl 0 rfl) ?_
  refine lv_bipush (v := 8) hx hb dX1_init_13 lb_8 ?_
  refine va_newa (atype := .int) (ty := .int) (a0 := (8, .inl (fun _ => 0))) hx hb (hts _ tw_1_87) rfl hG.1 hP hD hS hA (fun _ => rfl) (by decide) (by decide) (by decide) (Nat.le_of_ble_eq_true rfl) (Nat.le_of_ble_eq_true rfl) dX1_init_15 (fun q2 cA H hK1 hP hD hS => ?_)
  have eA := ca_eq 0 rfl hK1 (fun _ h => h)
  subst eA
  have hP : va_P G.1 vwCl (List.flatten [[(q, .inr (1, [.ref q1, .null, .null, .int 0]))], [(q1, .inl (G.2.1 0, 8, .inl (fun _ => 0)))], [(q2, .inl (G.2.1 0, 8, .inl (fun _ => 0)))]]) H := fl_snoc hP
  have hD : va_D A (List.flatten [[(q, .inr (1, [.ref q1, .null, .null, .int 0]))], [(q1, .inl (G.2.1 0, 8, .inl (fun _ => 0)))], [(q2, .inl (G.2.1 0, 8, .inl (fun _ => 0)))]]) := fl_snocD hD
  refine va_putF (D := G.1) (cl := vwCl) (tys := tysG G) (ci := 1) (v := .ref q2) (ty := .array .int) (C := RX1) (T := TX1) (N := 4) hx hb hts iX1 tyX1 tyX1_ok nmX1 hown hG.1 hP hD hS 0 rfl rfl 1 (Nat.le_of_ble_eq_true rfl) (hts _ tw_1_66) (fun _ h9 => h9) rfl hin rfl (by decide +kernel) rfl rfl (Nat.le_of_ble_eq_true rfl) dX1_init_17 (fun H locs hP hD hS => ?_)
  have hP : va_P G.1 vwCl (List.flatten [[(q, .inr (1, [.ref q1, .ref q2, .null, .int 0]))], [(q1, .inl (G.2.1 0, 8, .inl (fun _ => 0)))], [(q2, .inl (G.2.1 0, 8, .inl (fun _ => 0)))]]) H := hP
  have hD : va_D A (List.flatten [[(q, .inr (1, [.ref q1, .ref q2, .null, .int 0]))], [(q1, .inl (G.2.1 0, 8, .inl (fun _ => 0)))], [(q2, .inl (G.2.1 0, 8, .inl (fun _ => 0)))]]) := hD
  refine lv_aload_n hx hb dX1_init_20 rfl (lv_at hl 0 rfl) ?_
  refine lv_bipush (v := 8) hx hb dX1_init_21 lb_8 ?_
  refine va_newa (atype := .int) (ty := .int) (a0 := (8, .inl (fun _ => 0))) hx hb (hts _ tw_1_87) rfl hG.1 hP hD hS hA (fun _ => rfl) (by decide) (by decide) (by decide) (Nat.le_of_ble_eq_true rfl) (Nat.le_of_ble_eq_true rfl) dX1_init_23 (fun q3 cA H hK1 hP hD hS => ?_)
  have eA := ca_eq 0 rfl hK1 (fun _ h => h)
  subst eA
  have hP : va_P G.1 vwCl (List.flatten [[(q, .inr (1, [.ref q1, .ref q2, .null, .int 0]))], [(q1, .inl (G.2.1 0, 8, .inl (fun _ => 0)))], [(q2, .inl (G.2.1 0, 8, .inl (fun _ => 0)))], [(q3, .inl (G.2.1 0, 8, .inl (fun _ => 0)))]]) H := fl_snoc hP
  have hD : va_D A (List.flatten [[(q, .inr (1, [.ref q1, .ref q2, .null, .int 0]))], [(q1, .inl (G.2.1 0, 8, .inl (fun _ => 0)))], [(q2, .inl (G.2.1 0, 8, .inl (fun _ => 0)))], [(q3, .inl (G.2.1 0, 8, .inl (fun _ => 0)))]]) := fl_snocD hD
  refine va_putF (D := G.1) (cl := vwCl) (tys := tysG G) (ci := 1) (v := .ref q3) (ty := .array .int) (C := RX1) (T := TX1) (N := 4) hx hb hts iX1 tyX1 tyX1_ok nmX1 hown hG.1 hP hD hS 0 rfl rfl 2 (Nat.le_of_ble_eq_true rfl) (hts _ tw_1_70) (fun _ h9 => h9) rfl hin rfl (by decide +kernel) rfl rfl (Nat.le_of_ble_eq_true rfl) dX1_init_25 (fun H locs hP hD hS => ?_)
  have hP : va_P G.1 vwCl (List.flatten [[(q, .inr (1, [.ref q1, .ref q2, .ref q3, .int 0]))], [(q1, .inl (G.2.1 0, 8, .inl (fun _ => 0)))], [(q2, .inl (G.2.1 0, 8, .inl (fun _ => 0)))], [(q3, .inl (G.2.1 0, 8, .inl (fun _ => 0)))]]) H := hP
  have hD : va_D A (List.flatten [[(q, .inr (1, [.ref q1, .ref q2, .ref q3, .int 0]))], [(q1, .inl (G.2.1 0, 8, .inl (fun _ => 0)))], [(q2, .inl (G.2.1 0, 8, .inl (fun _ => 0)))], [(q3, .inl (G.2.1 0, 8, .inl (fun _ => 0)))]]) := hD
  exact rt_n0 K (fun _ k => match k with | 0 => q | 1 => q1 | 2 => q2 | 3 => q3 | _ => 0) rfl hP hD hS dX1_init_28
theorem cdX3_init : CallD yX3_init 0 := by decide +kernel
set_option maxHeartbeats 4000000 in
set_option maxRecDepth 100000 in
theorem nX3 (l : Launch) (G : GP) (q : Nat) : CN l G yX3_init cX3_init 2 7 72 q [(q, .inr (3, [.null, .null, .null, .null, .null, .null, .null, .long 0]))] (fun u => [wP G (u 0) z0]) := by
  refine CN.of (by decide) ?_
  intro p e s m below meth c A K hin hP hD hS ls hl
  obtain ⟨hx, hb, hr, hml, hts, hown, hlocks, hA, hG⟩ := id K
  have hP : va_P G.1 vwCl (List.flatten [[(q, .inr (3, [.null, .null, .null, .null, .null, .null, .null, .long 0]))]]) s.heap := hP
  have hD : va_D A (List.flatten [[(q, .inr (3, [.null, .null, .null, .null, .null, .null, .null, .long 0]))]]) := hD
  refine lv_aload_n hx hb dX3_init_0 rfl (lv_at hl 0 rfl) ?_
  refine W.objInit hx hb hown (hts _ tw_1_231) (hts _ tw_1_26) (hts _ tw_1_27) rfl (by rw [hml]; exact hl.1) rfl dX3_init_1 (Nat.le_of_ble_eq_true rfl) (Nat.le_of_ble_eq_true rfl) ?_
  refine W.eq (g2 := F0 m 4 ls []) rfl ?_
  refine lv_aload_n hx hb dX3_init_4 rfl (lv_at hl 0 rfl) ?_
  refine lv_bipush (v := 10) hx hb dX3_init_5 lb_10 ?_
  refine va_newa (atype := .long) (ty := .long) (a0 := (10, .inr (.inl (fun _ => 0)))) hx hb (hts _ tw_2_17) rfl hG.1 hP hD hS hA (fun _ => rfl) (by decide) (by decide) (by decide) (Nat.le_of_ble_eq_true rfl) (Nat.le_of_ble_eq_true rfl) dX3_init_7 (fun q1 cA H hK1 hP hD hS => ?_)
  have eA := ca_eq 1 rfl hK1 (fun _ h => h)
  subst eA
  have hP : va_P G.1 vwCl (List.flatten [[(q, .inr (3, [.null, .null, .null, .null, .null, .null, .null, .long 0]))], [(q1, .inl (G.2.1 1, 10, .inr (.inl (fun _ => 0))))]]) H := fl_snoc hP
  have hD : va_D A (List.flatten [[(q, .inr (3, [.null, .null, .null, .null, .null, .null, .null, .long 0]))], [(q1, .inl (G.2.1 1, 10, .inr (.inl (fun _ => 0))))]]) := fl_snocD hD
  refine va_putF (D := G.1) (cl := vwCl) (tys := tysG G) (ci := 3) (v := .ref q1) (ty := .array .long) (C := RX3) (T := TX3) (N := 8) hx hb hts iX3 tyX3 tyX3_ok nmX3 hown hG.1 hP hD hS 0 rfl rfl 0 (Nat.le_of_ble_eq_true rfl) (hts _ tw_1_232) (fun _ h9 => h9) rfl hin rfl (by decide +kernel) rfl rfl (Nat.le_of_ble_eq_true rfl) dX3_init_9 (fun H locs hP hD hS => ?_)
  have hP : va_P G.1 vwCl (List.flatten [[(q, .inr (3, [.ref q1, .null, .null, .null, .null, .null, .null, .long 0]))], [(q1, .inl (G.2.1 1, 10, .inr (.inl (fun _ => 0))))]]) H := hP
  have hD : va_D A (List.flatten [[(q, .inr (3, [.ref q1, .null, .null, .null, .null, .null, .null, .long 0]))], [(q1, .inl (G.2.1 1, 10, .inr (.inl (fun _ => 0))))]]) := hD
  refine lv_aload_n hx hb dX3_init_12 rfl (lv_at hl 0 rfl) ?_
  refine lv_bipush (v := 10) hx hb dX3_init_13 lb_10 ?_
  refine va_newa (atype := .long) (ty := .long) (a0 := (10, .inr (.inl (fun _ => 0)))) hx hb (hts _ tw_2_17) rfl hG.1 hP hD hS hA (fun _ => rfl) (by decide) (by decide) (by decide) (Nat.le_of_ble_eq_true rfl) (Nat.le_of_ble_eq_true rfl) dX3_init_15 (fun q2 cA H hK1 hP hD hS => ?_)
  have eA := ca_eq 1 rfl hK1 (fun _ h => h)
  subst eA
  have hP : va_P G.1 vwCl (List.flatten [[(q, .inr (3, [.ref q1, .null, .null, .null, .null, .null, .null, .long 0]))], [(q1, .inl (G.2.1 1, 10, .inr (.inl (fun _ => 0))))], [(q2, .inl (G.2.1 1, 10, .inr (.inl (fun _ => 0))))]]) H := fl_snoc hP
  have hD : va_D A (List.flatten [[(q, .inr (3, [.ref q1, .null, .null, .null, .null, .null, .null, .long 0]))], [(q1, .inl (G.2.1 1, 10, .inr (.inl (fun _ => 0))))], [(q2, .inl (G.2.1 1, 10, .inr (.inl (fun _ => 0))))]]) := fl_snocD hD
  refine va_putF (D := G.1) (cl := vwCl) (tys := tysG G) (ci := 3) (v := .ref q2) (ty := .array .long) (C := RX3) (T := TX3) (N := 8) hx hb hts iX3 tyX3 tyX3_ok nmX3 hown hG.1 hP hD hS 0 rfl rfl 1 (Nat.le_of_ble_eq_true rfl) (hts _ tw_1_233) (fun _ h9 => h9) rfl hin rfl (by decide +kernel) rfl rfl (Nat.le_of_ble_eq_true rfl) dX3_init_17 (fun H locs hP hD hS => ?_)
  have hP : va_P G.1 vwCl (List.flatten [[(q, .inr (3, [.ref q1, .ref q2, .null, .null, .null, .null, .null, .long 0]))], [(q1, .inl (G.2.1 1, 10, .inr (.inl (fun _ => 0))))], [(q2, .inl (G.2.1 1, 10, .inr (.inl (fun _ => 0))))]]) H := hP
  have hD : va_D A (List.flatten [[(q, .inr (3, [.ref q1, .ref q2, .null, .null, .null, .null, .null, .long 0]))], [(q1, .inl (G.2.1 1, 10, .inr (.inl (fun _ => 0))))], [(q2, .inl (G.2.1 1, 10, .inr (.inl (fun _ => 0))))]]) := hD
  refine lv_aload_n hx hb dX3_init_20 rfl (lv_at hl 0 rfl) ?_
  refine lv_bipush (v := 10) hx hb dX3_init_21 lb_10 ?_
  refine va_newa (atype := .int) (ty := .int) (a0 := (10, .inl (fun _ => 0))) hx hb (hts _ tw_1_87) rfl hG.1 hP hD hS hA (fun _ => rfl) (by decide) (by decide) (by decide) (Nat.le_of_ble_eq_true rfl) (Nat.le_of_ble_eq_true rfl) dX3_init_23 (fun q3 cA H hK1 hP hD hS => ?_)
  have eA := ca_eq 0 rfl hK1 (fun _ h => h)
  subst eA
  have hP : va_P G.1 vwCl (List.flatten [[(q, .inr (3, [.ref q1, .ref q2, .null, .null, .null, .null, .null, .long 0]))], [(q1, .inl (G.2.1 1, 10, .inr (.inl (fun _ => 0))))], [(q2, .inl (G.2.1 1, 10, .inr (.inl (fun _ => 0))))], [(q3, .inl (G.2.1 0, 10, .inl (fun _ => 0)))]]) H := fl_snoc hP
  have hD : va_D A (List.flatten [[(q, .inr (3, [.ref q1, .ref q2, .null, .null, .null, .null, .null, .long 0]))], [(q1, .inl (G.2.1 1, 10, .inr (.inl (fun _ => 0))))], [(q2, .inl (G.2.1 1, 10, .inr (.inl (fun _ => 0))))], [(q3, .inl (G.2.1 0, 10, .inl (fun _ => 0)))]]) := fl_snocD hD
  refine va_putF (D := G.1) (cl := vwCl) (tys := tysG G) (ci := 3) (v := .ref q3) (ty := .array .int) (C := RX3) (T := TX3) (N := 8) hx hb hts iX3 tyX3 tyX3_ok nmX3 hown hG.1 hP hD hS 0 rfl rfl 2 (Nat.le_of_ble_eq_true rfl) (hts _ tw_1_234) (fun _ h9 => h9) rfl hin rfl (by decide +kernel) rfl rfl (Nat.le_of_ble_eq_true rfl) dX3_init_25 (fun H locs hP hD hS => ?_)
  have hP : va_P G.1 vwCl (List.flatten [[(q, .inr (3, [.ref q1, .ref q2, .ref q3, .null, .null, .null, .null, .long 0]))], [(q1, .inl (G.2.1 1, 10, .inr (.inl (fun _ => 0))))], [(q2, .inl (G.2.1 1, 10, .inr (.inl (fun _ => 0))))], [(q3, .inl (G.2.1 0, 10, .inl (fun _ => 0)))]]) H := hP
  have hD : va_D A (List.flatten [[(q, .inr (3, [.ref q1, .ref q2, .ref q3, .null, .null, .null, .null, .long 0]))], [(q1, .inl (G.2.1 1, 10, .inr (.inl (fun _ => 0))))], [(q2, .inl (G.2.1 1, 10, .inr (.inl (fun _ => 0))))], [(q3, .inl (G.2.1 0, 10, .inl (fun _ => 0)))]]) := hD
  refine lv_aload_n hx hb dX3_init_28 rfl (lv_at hl 0 rfl) ?_
  refine lv_bipush (v := 11) hx hb dX3_init_29 lb_11 ?_
  refine va_newa (atype := .long) (ty := .long) (a0 := (11, .inr (.inl (fun _ => 0)))) hx hb (hts _ tw_2_17) rfl hG.1 hP hD hS hA (fun _ => rfl) (by decide) (by decide) (by decide) (Nat.le_of_ble_eq_true rfl) (Nat.le_of_ble_eq_true rfl) dX3_init_31 (fun q4 cA H hK1 hP hD hS => ?_)
  have eA := ca_eq 1 rfl hK1 (fun _ h => h)
  subst eA
  have hP : va_P G.1 vwCl (List.flatten [[(q, .inr (3, [.ref q1, .ref q2, .ref q3, .null, .null, .null, .null, .long 0]))], [(q1, .inl (G.2.1 1, 10, .inr (.inl (fun _ => 0))))], [(q2, .inl (G.2.1 1, 10, .inr (.inl (fun _ => 0))))], [(q3, .inl (G.2.1 0, 10, .inl (fun _ => 0)))], [(q4, .inl (G.2.1 1, 11, .inr (.inl (fun _ => 0))))]]) H := fl_snoc hP
  have hD : va_D A (List.flatten [[(q, .inr (3, [.ref q1, .ref q2, .ref q3, .null, .null, .null, .null, .long 0]))], [(q1, .inl (G.2.1 1, 10, .inr (.inl (fun _ => 0))))], [(q2, .inl (G.2.1 1, 10, .inr (.inl (fun _ => 0))))], [(q3, .inl (G.2.1 0, 10, .inl (fun _ => 0)))], [(q4, .inl (G.2.1 1, 11, .inr (.inl (fun _ => 0))))]]) := fl_snocD hD
  refine va_putF (D := G.1) (cl := vwCl) (tys := tysG G) (ci := 3) (v := .ref q4) (ty := .array .long) (C := RX3) (T := TX3) (N := 8) hx hb hts iX3 tyX3 tyX3_ok nmX3 hown hG.1 hP hD hS 0 rfl rfl 3 (Nat.le_of_ble_eq_true rfl) (hts _ tw_1_235) (fun _ h9 => h9) rfl hin rfl (by decide +kernel) rfl rfl (Nat.le_of_ble_eq_true rfl) dX3_init_33 (fun H locs hP hD hS => ?_)
  have hP : va_P G.1 vwCl (List.flatten [[(q, .inr (3, [.ref q1, .ref q2, .ref q3, .ref q4, .null, .null, .null, .long 0]))], [(q1, .inl (G.2.1 1, 10, .inr (.inl (fun _ => 0))))], [(q2, .inl (G.2.1 1, 10, .inr (.inl (fun _ => 0))))], [(q3, .inl (G.2.1 0, 10, .inl (fun _ => 0)))], [(q4, .inl (G.2.1 1, 11, .inr (.inl (fun _ => 0))))]]) H := hP
  have hD : va_D A (List.flatten [[(q, .inr (3, [.ref q1, .ref q2, .ref q3, .ref q4, .null, .null, .null, .long 0]))], [(q1, .inl (G.2.1 1, 10, .inr (.inl (fun _ => 0))))], [(q2, .inl (G.2.1 1, 10, .inr (.inl (fun _ => 0))))], [(q3, .inl (G.2.1 0, 10, .inl (fun _ => 0)))], [(q4, .inl (G.2.1 1, 11, .inr (.inl (fun _ => 0))))]]) := hD
  refine lv_aload_n hx hb dX3_init_36 rfl (lv_at hl 0 rfl) ?_
  refine lv_bipush (v := 11) hx hb dX3_init_37 lb_11 ?_
  refine va_newa (atype := .int) (ty := .int) (a0 := (11, .inl (fun _ => 0))) hx hb (hts _ tw_1_87) rfl hG.1 hP hD hS hA (fun _ => rfl) (by decide) (by decide) (by decide) (Nat.le_of_ble_eq_true rfl) (Nat.le_of_ble_eq_true rfl) dX3_init_39 (fun q5 cA H hK1 hP hD hS => ?_)
  have eA := ca_eq 0 rfl hK1 (fun _ h => h)
  subst eA
  have hP : va_P G.1 vwCl (List.flatten [[(q, .inr (3, [.ref q1, .ref q2, .ref q3, .ref q4, .null, .null, .null, .long 0]))], [(q1, .inl (G.2.1 1, 10, .inr (.inl (fun _ => 0))))], [(q2, .inl (G.2.1 1, 10, .inr (.inl (fun _ => 0))))], [(q3, .inl (G.2.1 0, 10, .inl (fun _ => 0)))], [(q4, .inl (G.2.1 1, 11, .inr (.inl (fun _ => 0))))], [(q5, .inl (G.2.1 0, 11, .inl (fun _ => 0)))]]) H := fl_snoc hP
  have hD : va_D A (List.flatten [[(q, .inr (3, [.ref q1, .ref q2, .ref q3, .ref q4, .null, .null, .null, .long 0]))], [(q1, .inl (G.2.1 1, 10, .inr (.inl (fun _ => 0))))], [(q2, .inl (G.2.1 1, 10, .inr (.inl (fun _ => 0))))], [(q3, .inl (G.2.1 0, 10, .inl (fun _ => 0)))], [(q4, .inl (G.2.1 1, 11, .inr (.inl (fun _ => 0))))], [(q5, .inl (G.2.1 0, 11, .inl (fun _ => 0)))]]) := fl_snocD hD
  refine va_putF (D := G.1) (cl := vwCl) (tys := tysG G) (ci := 3) (v := .ref q5) (ty := .array .int) (C := RX3) (T := TX3) (N := 8) hx hb hts iX3 tyX3 tyX3_ok nmX3 hown hG.1 hP hD hS 0 rfl rfl 4 (Nat.le_of_ble_eq_true rfl) (hts _ tw_1_236) (fun _ h9 => h9) rfl hin rfl (by decide +kernel) rfl rfl (Nat.le_of_ble_eq_true rfl) dX3_init_41 (fun H locs hP hD hS => ?_)
  have hP : va_P G.1 vwCl (List.flatten [[(q, .inr (3, [.ref q1, .ref q2, .ref q3, .ref q4, .ref q5, .null, .null, .long 0]))], [(q1, .inl (G.2.1 1, 10, .inr (.inl (fun _ => 0))))], [(q2, .inl (G.2.1 1, 10, .inr (.inl (fun _ => 0))))], [(q3, .inl (G.2.1 0, 10, .inl (fun _ => 0)))], [(q4, .inl (G.2.1 1, 11, .inr (.inl (fun _ => 0))))], [(q5, .inl (G.2.1 0, 11, .inl (fun _ => 0)))]]) H := hP
  have hD : va_D A (List.flatten [[(q, .inr (3, [.ref q1, .ref q2, .ref q3, .ref q4, .ref q5, .null, .null, .long 0]))], [(q1, .inl (G.2.1 1, 10, .inr (.inl (fun _ => 0))))], [(q2, .inl (G.2.1 1, 10, .inr (.inl (fun _ => 0))))], [(q3, .inl (G.2.1 0, 10, .inl (fun _ => 0)))], [(q4, .inl (G.2.1 1, 11, .inr (.inl (fun _ => 0))))], [(q5, .inl (G.2.1 0, 11, .inl (fun _ => 0)))]]) := hD
  refine lv_aload_n hx hb dX3_init_44 rfl (lv_at hl 0 rfl) ?_
  refine lv_bipush (v := 10) hx hb dX3_init_45 lb_10 ?_
  refine va_newa (atype := .int) (ty := .int) (a0 := (10, .inl (fun _ => 0))) hx hb (hts _ tw_1_87) rfl hG.1 hP hD hS hA (fun _ => rfl) (by decide) (by decide) (by decide) (Nat.le_of_ble_eq_true rfl) (Nat.le_of_ble_eq_true rfl) dX3_init_47 (fun q6 cA H hK1 hP hD hS => ?_)
  have eA := ca_eq 0 rfl hK1 (fun _ h => h)
  subst eA
  have hP : va_P G.1 vwCl (List.flatten [[(q, .inr (3, [.ref q1, .ref q2, .ref q3, .ref q4, .ref q5, .null, .null, .long 0]))], [(q1, .inl (G.2.1 1, 10, .inr (.inl (fun _ => 0))))], [(q2, .inl (G.2.1 1, 10, .inr (.inl (fun _ => 0))))], [(q3, .inl (G.2.1 0, 10, .inl (fun _ => 0)))], [(q4, .inl (G.2.1 1, 11, .inr (.inl (fun _ => 0))))], [(q5, .inl (G.2.1 0, 11, .inl (fun _ => 0)))], [(q6, .inl (G.2.1 0, 10, .inl (fun _ => 0)))]]) H := fl_snoc hP
  have hD : va_D A (List.flatten [[(q, .inr (3, [.ref q1, .ref q2, .ref q3, .ref q4, .ref q5, .null, .null, .long 0]))], [(q1, .inl (G.2.1 1, 10, .inr (.inl (fun _ => 0))))], [(q2, .inl (G.2.1 1, 10, .inr (.inl (fun _ => 0))))], [(q3, .inl (G.2.1 0, 10, .inl (fun _ => 0)))], [(q4, .inl (G.2.1 1, 11, .inr (.inl (fun _ => 0))))], [(q5, .inl (G.2.1 0, 11, .inl (fun _ => 0)))], [(q6, .inl (G.2.1 0, 10, .inl (fun _ => 0)))]]) := fl_snocD hD
  refine va_putF (D := G.1) (cl := vwCl) (tys := tysG G) (ci := 3) (v := .ref q6) (ty := .array .int) (C := RX3) (T := TX3) (N := 8) hx hb hts iX3 tyX3 tyX3_ok nmX3 hown hG.1 hP hD hS 0 rfl rfl 5 (Nat.le_of_ble_eq_true rfl) (hts _ tw_1_237) (fun _ h9 => h9) rfl hin rfl (by decide +kernel) rfl rfl (Nat.le_of_ble_eq_true rfl) dX3_init_49 (fun H locs hP hD hS => ?_)
  have hP : va_P G.1 vwCl (List.flatten [[(q, .inr (3, [.ref q1, .ref q2, .ref q3, .ref q4, .ref q5, .ref q6, .null, .long 0]))], [(q1, .inl (G.2.1 1, 10, .inr (.inl (fun _ => 0))))], [(q2, .inl (G.2.1 1, 10, .inr (.inl (fun _ => 0))))], [(q3, .inl (G.2.1 0, 10, .inl (fun _ => 0)))], [(q4, .inl (G.2.1 1, 11, .inr (.inl (fun _ => 0))))], [(q5, .inl (G.2.1 0, 11, .inl (fun _ => 0)))], [(q6, .inl (G.2.1 0, 10, .inl (fun _ => 0)))]]) H := hP
  have hD : va_D A (List.flatten [[(q, .inr (3, [.ref q1, .ref q2, .ref q3, .ref q4, .ref q5, .ref q6, .null, .long 0]))], [(q1, .inl (G.2.1 1, 10, .inr (.inl (fun _ => 0))))], [(q2, .inl (G.2.1 1, 10, .inr (.inl (fun _ => 0))))], [(q3, .inl (G.2.1 0, 10, .inl (fun _ => 0)))], [(q4, .inl (G.2.1 1, 11, .inr (.inl (fun _ => 0))))], [(q5, .inl (G.2.1 0, 11, .inl (fun _ => 0)))], [(q6, .inl (G.2.1 0, 10, .inl (fun _ => 0)))]]) := hD
  refine lv_aload_n hx hb dX3_init_52 rfl (lv_at hl 0 rfl) ?_
  refine lv_bipush (v := 10) hx hb dX3_init_53 lb_10 ?_
  refine va_newa (atype := .int) (ty := .int) (a0 := (10, .inl (fun _ => 0))) hx hb (hts _ tw_1_87) rfl hG.1 hP hD hS hA (fun _ => rfl) (by decide) (by decide) (by decide) (Nat.le_of_ble_eq_true rfl) (Nat.le_of_ble_eq_true rfl) dX3_init_55 (fun q7 cA H hK1 hP hD hS => ?_)
  have eA := ca_eq 0 rfl hK1 (fun _ h => h)
  subst eA
  have hP : va_P G.1 vwCl (List.flatten [[(q, .inr (3, [.ref q1, .ref q2, .ref q3, .ref q4, .ref q5, .ref q6, .null, .long 0]))], [(q1, .inl (G.2.1 1, 10, .inr (.inl (fun _ => 0))))], [(q2, .inl (G.2.1 1, 10, .inr (.inl (fun _ => 0))))], [(q3, .inl (G.2.1 0, 10, .inl (fun _ => 0)))], [(q4, .inl (G.2.1 1, 11, .inr (.inl (fun _ => 0))))], [(q5, .inl (G.2.1 0, 11, .inl (fun _ => 0)))], [(q6, .inl (G.2.1 0, 10, .inl (fun _ => 0)))], [(q7, .inl (G.2.1 0, 10, .inl (fun _ => 0)))]]) H := fl_snoc hP
  have hD : va_D A (List.flatten [[(q, .inr (3, [.ref q1, .ref q2, .ref q3, .ref q4, .ref q5, .ref q6, .null, .long 0]))], [(q1, .inl (G.2.1 1, 10, .inr (.inl (fun _ => 0))))], [(q2, .inl (G.2.1 1, 10, .inr (.inl (fun _ => 0))))], [(q3, .inl (G.2.1 0, 10, .inl (fun _ => 0)))], [(q4, .inl (G.2.1 1, 11, .inr (.inl (fun _ => 0))))], [(q5, .inl (G.2.1 0, 11, .inl (fun _ => 0)))], [(q6, .inl (G.2.1 0, 10, .inl (fun _ => 0)))], [(q7, .inl (G.2.1 0, 10, .inl (fun _ => 0)))]]) := fl_snocD hD
  refine va_putF (D := G.1) (cl := vwCl) (tys := tysG G) (ci := 3) (v := .ref q7) (ty := .array .int) (C := RX3) (T := TX3) (N := 8) hx hb hts iX3 tyX3 tyX3_ok nmX3 hown hG.1 hP hD hS 0 rfl rfl 6 (Nat.le_of_ble_eq_true rfl) (hts _ tw_1_238) (fun _ h9 => h9) rfl hin rfl (by decide +kernel) rfl rfl (Nat.le_of_ble_eq_true rfl) dX3_init_57 (fun H locs hP hD hS => ?_)
  have hP : va_P G.1 vwCl (List.flatten [[(q, .inr (3, [.ref q1, .ref q2, .ref q3, .ref q4, .ref q5, .ref q6, .ref q7, .long 0]))], [(q1, .inl (G.2.1 1, 10, .inr (.inl (fun _ => 0))))], [(q2, .inl (G.2.1 1, 10, .inr (.inl (fun _ => 0))))], [(q3, .inl (G.2.1 0, 10, .inl (fun _ => 0)))], [(q4, .inl (G.2.1 1, 11, .inr (.inl (fun _ => 0))))], [(q5, .inl (G.2.1 0, 11, .inl (fun _ => 0)))], [(q6, .inl (G.2.1 0, 10, .inl (fun _ => 0)))], [(q7, .inl (G.2.1 0, 10, .inl (fun _ => 0)))]]) H := hP
  have hD : va_D A (List.flatten [[(q, .inr (3, [.ref q1, .ref q2, .ref q3, .ref q4, .ref q5, .ref q6, .ref q7, .long 0]))], [(q1, .inl (G.2.1 1, 10, .inr (.inl (fun _ => 0))))], [(q2, .inl (G.2.1 1, 10, .inr (.inl (fun _ => 0))))], [(q3, .inl (G.2.1 0, 10, .inl (fun _ => 0)))], [(q4, .inl (G.2.1 1, 11, .inr (.inl (fun _ => 0))))], [(q5, .inl (G.2.1 0, 11, .inl (fun _ => 0)))], [(q6, .inl (G.2.1 0, 10, .inl (fun _ => 0)))], [(q7, .inl (G.2.1 0, 10, .inl (fun _ => 0)))]]) := hD
  exact rt_n0 K (fun _ k => match k with | 0 => q | 1 => q1 | 2 => q2 | 3 => q3 | 4 => q4 | 5 => q5 | 6 => q6 | 7 => q7 | _ => 0) rfl hP hD hS dX3_init_60
theorem cdX6_init : CallD yX6_init 0 := by decide +kernel
set_option maxHeartbeats 4000000 in
set_option maxRecDepth 100000 in
theorem nX6 (l : Launch) (G : GP) (q : Nat) : CN l G yX6_init cX6_init 2 3 90 q [(q, .inr (6, [.null, .null, .null, .int 0]))] (fun u => [wR G (u 0) z0]) := by
  refine CN.of (by decide) ?_
  intro p e s m below meth c A K hin hP hD hS ls hl
  obtain ⟨hx, hb, hr, hml, hts, hown, hlocks, hA, hG⟩ := id K
  have hP : va_P G.1 vwCl (List.flatten [[(q, .inr (6, [.null, .null, .null, .int 0]))]]) s.heap := hP
  have hD : va_D A (List.flatten [[(q, .inr (6, [.null, .null, .null, .int 0]))]]) := hD
  refine lv_aload_n hx hb dX6_init_0 rfl (lv_at hl 0 rfl) ?_
  refine W.objInit hx hb hown (hts _ tw_1_188) (hts _ tw_1_26) (hts _ tw_1_27) rfl (by rw [hml]; exact hl.1) rfl dX6_init_1 (Nat.le_of_ble_eq_true rfl) (Nat.le_of_ble_eq_true rfl) ?_
  refine W.eq (g2 := F0 m 4 ls []) rfl ?_
  refine lv_aload_n hx hb dX6_init_4 rfl (lv_at hl 0 rfl) ?_
  refine lv_bipush (v := 30) hx hb dX6_init_5 lb_30 ?_
  refine va_newa (atype := .int) (ty := .int) (a0 := (30, .inl (fun _ => 0))) hx hb (hts _ tw_1_87) rfl hG.1 hP hD hS hA (fun _ => rfl) (by decide) (by decide) (by decide) (Nat.le_of_ble_eq_true rfl) (Nat.le_of_ble_eq_true rfl) dX6_init_7 (fun q1 cA H hK1 hP hD hS => ?_)
  have eA := ca_eq 0 rfl hK1 (fun _ h => h)
  subst eA
  have hP : va_P G.1 vwCl (List.flatten [[(q, .inr (6, [.null, .null, .null, .int 0]))], [(q1, .inl (G.2.1 0, 30, .inl (fun _ => 0)))]]) H := fl_snoc hP
  have hD : va_D A (List.flatten [[(q, .inr (6, [.null, .null, .null, .int 0]))], [(q1, .inl (G.2.1 0, 30, .inl (fun _ => 0)))]]) := fl_snocD hD
  refine va_putF (D := G.1) (cl := vwCl) (tys := tysG G) (ci := 6) (v := .ref q1) (ty := .array .int) (C := RX6) (T := TX6) (N := 4) hx hb hts iX6 tyX6 tyX6_ok nmX6 hown hG.1 hP hD hS 0 rfl rfl 0 (Nat.le_of_ble_eq_true rfl) (hts _ tw_1_189) (fun _ h9 => h9) rfl hin rfl (by decide +kernel) rfl rfl (Nat.le_of_ble_eq_true rfl) dX6_init_9 (fun H locs hP hD hS => ?_)
  have hP : va_P G.1 vwCl (List.flatten [[(q, .inr (6, [.ref q1, .null, .null, .int 0]))], [(q1, .inl (G.2.1 0, 30, .inl (fun _ => 0)))]]) H := hP
  have hD : va_D A (List.flatten [[(q, .inr (6, [.ref q1, .null, .null, .int 0]))], [(q1, .inl (G.2.1 0, 30, .inl (fun _ => 0)))]]) := hD
  refine lv_aload_n hx hb dX6_init_12 rfl (lv_at hl 0 rfl) ?_
  refine lv_bipush (v := 30) hx hb dX6_init_13 lb_30 ?_
  refine va_newa (atype := .int) (ty := .int) (a0 := (30, .inl (fun _ => 0))) hx hb (hts _ tw_1_87) rfl hG.1 hP hD hS hA (fun _ => rfl) (by decide) (by decide) (by decide) (Nat.le_of_ble_eq_true rfl) (Nat.le_of_ble_eq_true rfl) dX6_init_15 (fun q2 cA H hK1 hP hD hS => ?_)
  have eA := ca_eq 0 rfl hK1 (fun _ h => h)
  subst eA
  have hP : va_P G.1 vwCl (List.flatten [[(q, .inr (6, [.ref q1, .null, .null, .int 0]))], [(q1, .inl (G.2.1 0, 30, .inl (fun _ => 0)))], [(q2, .inl (G.2.1 0, 30, .inl (fun _ => 0)))]]) H := fl_snoc hP
  have hD : va_D A (List.flatten [[(q, .inr (6, [.ref q1, .null, .null, .int 0]))], [(q1, .inl (G.2.1 0, 30, .inl (fun _ => 0)))], [(q2, .inl (G.2.1 0, 30, .inl (fun _ => 0)))]]) := fl_snocD hD
  refine va_putF (D := G.1) (cl := vwCl) (tys := tysG G) (ci := 6) (v := .ref q2) (ty := .array .int) (C := RX6) (T := TX6) (N := 4) hx hb hts iX6 tyX6 tyX6_ok nmX6 hown hG.1 hP hD hS 0 rfl rfl 1 (Nat.le_of_ble_eq_true rfl) (hts _ tw_1_191) (fun _ h9 => h9) rfl hin rfl (by decide +kernel) rfl rfl (Nat.le_of_ble_eq_true rfl) dX6_init_17 (fun H locs hP hD hS => ?_)
  have hP : va_P G.1 vwCl (List.flatten [[(q, .inr (6, [.ref q1, .ref q2, .null, .int 0]))], [(q1, .inl (G.2.1 0, 30, .inl (fun _ => 0)))], [(q2, .inl (G.2.1 0, 30, .inl (fun _ => 0)))]]) H := hP
  have hD : va_D A (List.flatten [[(q, .inr (6, [.ref q1, .ref q2, .null, .int 0]))], [(q1, .inl (G.2.1 0, 30, .inl (fun _ => 0)))], [(q2, .inl (G.2.1 0, 30, .inl (fun _ => 0)))]]) := hD
  refine lv_aload_n hx hb dX6_init_20 rfl (lv_at hl 0 rfl) ?_
  refine lv_bipush (v := 30) hx hb dX6_init_21 lb_30 ?_
  refine va_newa (atype := .int) (ty := .int) (a0 := (30, .inl (fun _ => 0))) hx hb (hts _ tw_1_87) rfl hG.1 hP hD hS hA (fun _ => rfl) (by decide) (by decide) (by decide) (Nat.le_of_ble_eq_true rfl) (Nat.le_of_ble_eq_true rfl) dX6_init_23 (fun q3 cA H hK1 hP hD hS => ?_)
  have eA := ca_eq 0 rfl hK1 (fun _ h => h)
  subst eA
  have hP : va_P G.1 vwCl (List.flatten [[(q, .inr (6, [.ref q1, .ref q2, .null, .int 0]))], [(q1, .inl (G.2.1 0, 30, .inl (fun _ => 0)))], [(q2, .inl (G.2.1 0, 30, .inl (fun _ => 0)))], [(q3, .inl (G.2.1 0, 30, .inl (fun _ => 0)))]]) H := fl_snoc hP
  have hD : va_D A (List.flatten [[(q, .inr (6, [.ref q1, .ref q2, .null, .int 0]))], [(q1, .inl (G.2.1 0, 30, .inl (fun _ => 0)))], [(q2, .inl (G.2.1 0, 30, .inl (fun _ => 0)))], [(q3, .inl (G.2.1 0, 30, .inl (fun _ => 0)))]]) := fl_snocD hD
  refine va_putF (D := G.1) (cl := vwCl) (tys := tysG G) (ci := 6) (v := .ref q3) (ty := .array .int) (C := RX6) (T := TX6) (N := 4) hx hb hts iX6 tyX6 tyX6_ok nmX6 hown hG.1 hP hD hS 0 rfl rfl 2 (Nat.le_of_ble_eq_true rfl) (hts _ tw_1_193) (fun _ h9 => h9) rfl hin rfl (by decide +kernel) rfl rfl (Nat.le_of_ble_eq_true rfl) dX6_init_25 (fun H locs hP hD hS => ?_)
  have hP : va_P G.1 vwCl (List.flatten [[(q, .inr (6, [.ref q1, .ref q2, .ref q3, .int 0]))], [(q1, .inl (G.2.1 0, 30, .inl (fun _ => 0)))], [(q2, .inl (G.2.1 0, 30, .inl (fun _ => 0)))], [(q3, .inl (G.2.1 0, 30, .inl (fun _ => 0)))]]) H := hP
  have hD : va_D A (List.flatten [[(q, .inr (6, [.ref q1, .ref q2, .ref q3, .int 0]))], [(q1, .inl (G.2.1 0, 30, .inl (fun _ => 0)))], [(q2, .inl (G.2.1 0, 30, .inl (fun _ => 0)))], [(q3, .inl (G.2.1 0, 30, .inl (fun _ => 0)))]]) := hD
  exact rt_n0 K (fun _ k => match k with | 0 => q | 1 => q1 | 2 => q2 | 3 => q3 | _ => 0) rfl hP hD hS dX6_init_28
theorem cdX7_init : CallD yX7_init 0 := by decide +kernel
set_option maxHeartbeats 4000000 in
set_option maxRecDepth 100000 in
theorem nX7 (l : Launch) (G : GP) (q : Nat) : CN l G yX7_init cX7_init 2 2 12 q [(q, .inr (7, [.null, .null, .int 0]))] (fun u => [wS G (u 0) z0]) := by
  refine CN.of (by decide) ?_
  intro p e s m below meth c A K hin hP hD hS ls hl
  obtain ⟨hx, hb, hr, hml, hts, hown, hlocks, hA, hG⟩ := id K
  have hP : va_P G.1 vwCl (List.flatten [[(q, .inr (7, [.null, .null, .int 0]))]]) s.heap := hP
  have hD : va_D A (List.flatten [[(q, .inr (7, [.null, .null, .int 0]))]]) := hD
  refine lv_aload_n hx hb dX7_init_0 rfl (lv_at hl 0 rfl) ?_
  refine W.objInit hx hb hown (hts _ tw_1_211) (hts _ tw_1_26) (hts _ tw_1_27) rfl (by rw [hml]; exact hl.1) rfl dX7_init_1 (Nat.le_of_ble_eq_true rfl) (Nat.le_of_ble_eq_true rfl) ?_
  refine W.eq (g2 := F0 m 4 ls []) rfl ?_
  refine lv_aload_n hx hb dX7_init_4 rfl (lv_at hl 0 rfl) ?_
  refine lv_bipush (v := 6) hx hb dX7_init_5 lb_6 ?_
  refine va_newa (atype := .int) (ty := .int) (a0 := (6, .inl (fun _ => 0))) hx hb (hts _ tw_1_87) rfl hG.1 hP hD hS hA (fun _ => rfl) (by decide) (by decide) (by decide) (Nat.le_of_ble_eq_true rfl) (Nat.le_of_ble_eq_true rfl) dX7_init_7 (fun q1 cA H hK1 hP hD hS => ?_)
  have eA := ca_eq 0 rfl hK1 (fun _ h => h)
  subst eA
  have hP : va_P G.1 vwCl (List.flatten [[(q, .inr (7, [.null, .null, .int 0]))], [(q1, .inl (G.2.1 0, 6, .inl (fun _ => 0)))]]) H := fl_snoc hP
  have hD : va_D A (List.flatten [[(q, .inr (7, [.null, .null, .int 0]))], [(q1, .inl (G.2.1 0, 6, .inl (fun _ => 0)))]]) := fl_snocD hD
  refine va_putF (D := G.1) (cl := vwCl) (tys := tysG G) (ci := 7) (v := .ref q1) (ty := .array .int) (C := RX7) (T := TX7) (N := 3) hx hb hts iX7 tyX7 tyX7_ok nmX7 hown hG.1 hP hD hS 0 rfl rfl 0 (Nat.le_of_ble_eq_true rfl) (hts _ tw_1_212) (fun _ h9 => h9) rfl hin rfl (by decide +kernel) rfl rfl (Nat.le_of_ble_eq_true rfl) dX7_init_9 (fun H locs hP hD hS => ?_)
  have hP : va_P G.1 vwCl (List.flatten [[(q, .inr (7, [.ref q1, .null, .int 0]))], [(q1, .inl (G.2.1 0, 6, .inl (fun _ => 0)))]]) H := hP
  have hD : va_D A (List.flatten [[(q, .inr (7, [.ref q1, .null, .int 0]))], [(q1, .inl (G.2.1 0, 6, .inl (fun _ => 0)))]]) := hD
  refine lv_aload_n hx hb dX7_init_12 rfl (lv_at hl 0 rfl) ?_
  refine lv_bipush (v := 6) hx hb dX7_init_13 lb_6 ?_
  refine va_newa (atype := .int) (ty := .int) (a0 := (6, .inl (fun _ => 0))) hx hb (hts _ tw_1_87) rfl hG.1 hP hD hS hA (fun _ => rfl) (by decide) (by decide) (by decide) (Nat.le_of_ble_eq_true rfl) (Nat.le_of_ble_eq_true rfl) dX7_init_15 (fun q2 cA H hK1 hP hD hS => ?_)
  have eA := ca_eq 0 rfl hK1 (fun _ h => h)
  subst eA
  have hP : va_P G.1 vwCl (List.flatten [[(q, .inr (7, [.ref q1, .null, .int 0]))], [(q1, .inl (G.2.1 0, 6, .inl (fun _ => 0)))], [(q2, .inl (G.2.1 0, 6, .inl (fun _ => 0)))]]) H := fl_snoc hP
  have hD : va_D A (List.flatten [[(q, .inr (7, [.ref q1, .null, .int 0]))], [(q1, .inl (G.2.1 0, 6, .inl (fun _ => 0)))], [(q2, .inl (G.2.1 0, 6, .inl (fun _ => 0)))]]) := fl_snocD hD
  refine va_putF (D := G.1) (cl := vwCl) (tys := tysG G) (ci := 7) (v := .ref q2) (ty := .array .int) (C := RX7) (T := TX7) (N := 3) hx hb hts iX7 tyX7 tyX7_ok nmX7 hown hG.1 hP hD hS 0 rfl rfl 1 (Nat.le_of_ble_eq_true rfl) (hts _ tw_1_214) (fun _ h9 => h9) rfl hin rfl (by decide +kernel) rfl rfl (Nat.le_of_ble_eq_true rfl) dX7_init_17 (fun H locs hP hD hS => ?_)
  have hP : va_P G.1 vwCl (List.flatten [[(q, .inr (7, [.ref q1, .ref q2, .int 0]))], [(q1, .inl (G.2.1 0, 6, .inl (fun _ => 0)))], [(q2, .inl (G.2.1 0, 6, .inl (fun _ => 0)))]]) H := hP
  have hD : va_D A (List.flatten [[(q, .inr (7, [.ref q1, .ref q2, .int 0]))], [(q1, .inl (G.2.1 0, 6, .inl (fun _ => 0)))], [(q2, .inl (G.2.1 0, 6, .inl (fun _ => 0)))]]) := hD
  exact rt_n0 K (fun _ k => match k with | 0 => q | 1 => q1 | 2 => q2 | _ => 0) rfl hP hD hS dX7_init_20
theorem cdX9_init : CallD yX9_init 0 := by decide +kernel
set_option maxHeartbeats 4000000 in
set_option maxRecDepth 100000 in
theorem nX9 (l : Launch) (G : GP) (q : Nat) : CN l G yX9_init cX9_init 2 1 92 q [(q, .inr (9, [.null, .int 0]))] (fun u => [wT G (u 0) z0]) := by
  refine CN.of (by decide) ?_
  intro p e s m below meth c A K hin hP hD hS ls hl
  obtain ⟨hx, hb, hr, hml, hts, hown, hlocks, hA, hG⟩ := id K
  have hP : va_P G.1 vwCl (List.flatten [[(q, .inr (9, [.null, .int 0]))]]) s.heap := hP
  have hD : va_D A (List.flatten [[(q, .inr (9, [.null, .int 0]))]]) := hD
  refine lv_aload_n hx hb dX9_init_0 rfl (lv_at hl 0 rfl) ?_
  refine W.objInit hx hb hown (hts _ tw_1_33) (hts _ tw_1_26) (hts _ tw_1_27) rfl (by rw [hml]; exact hl.1) rfl dX9_init_1 (Nat.le_of_ble_eq_true rfl) (Nat.le_of_ble_eq_true rfl) ?_
  refine W.eq (g2 := F0 m 4 ls []) rfl ?_
  refine lv_aload_n hx hb dX9_init_4 rfl (lv_at hl 0 rfl) ?_
  refine lv_bipush (v := 92) hx hb dX9_init_5 lb_92 ?_
  refine va_newa (atype := .byte) (ty := .byte) (a0 := (92, .inl (fun _ => 0))) hx hb (hts _ tw_1_44) rfl hG.1 hP hD hS hA (fun _ => rfl) (by decide) (by decide) (by decide) (Nat.le_of_ble_eq_true rfl) (Nat.le_of_ble_eq_true rfl) dX9_init_7 (fun q1 cA H hK1 hP hD hS => ?_)
  have eA := ca_eq 3 rfl hK1 (fun _ h => h)
  subst eA
  have hP : va_P G.1 vwCl (List.flatten [[(q, .inr (9, [.null, .int 0]))], [(q1, .inl (G.2.1 3, 92, .inl (fun _ => 0)))]]) H := fl_snoc hP
  have hD : va_D A (List.flatten [[(q, .inr (9, [.null, .int 0]))], [(q1, .inl (G.2.1 3, 92, .inl (fun _ => 0)))]]) := fl_snocD hD
  refine va_putF (D := G.1) (cl := vwCl) (tys := tysG G) (ci := 9) (v := .ref q1) (ty := .array .byte) (C := RX9) (T := TX9) (N := 2) hx hb hts iX9 tyX9 tyX9_ok nmX9 hown hG.1 hP hD hS 0 rfl rfl 0 (Nat.le_of_ble_eq_true rfl) (hts _ tw_1_34) (fun _ h9 => h9) rfl hin rfl (by decide +kernel) rfl rfl (Nat.le_of_ble_eq_true rfl) dX9_init_9 (fun H locs hP hD hS => ?_)
  have hP : va_P G.1 vwCl (List.flatten [[(q, .inr (9, [.ref q1, .int 0]))], [(q1, .inl (G.2.1 3, 92, .inl (fun _ => 0)))]]) H := hP
  have hD : va_D A (List.flatten [[(q, .inr (9, [.ref q1, .int 0]))], [(q1, .inl (G.2.1 3, 92, .inl (fun _ => 0)))]]) := hD
  exact rt_n0 K (fun _ k => match k with | 0 => q | 1 => q1 | _ => 0) rfl hP hD hS dX9_init_12
theorem cdX4_init : CallD yX4_init 0 := by decide +kernel
set_option maxHeartbeats 4000000 in
set_option maxRecDepth 100000 in
theorem nX4 (l : Launch) (G : GP) (q : Nat) : CN l G yX4_init cX4_init 2 10 41 q [(q, .inr (4, [.null, .null, .null, .int 0, .int 0, .int 0]))] (fun u => [wD G (u 0) z0]) := by
  refine CN.of (by decide) ?_
  intro p e s m below meth c A K hin hP hD hS ls hl
  obtain ⟨hx, hb, hr, hml, hts, hown, hlocks, hA, hG⟩ := id K
  have hP : va_P G.1 vwCl (List.flatten [[(q, .inr (4, [.null, .null, .null, .int 0, .int 0, .int 0]))]]) s.heap := hP
  have hD : va_D A (List.flatten [[(q, .inr (4, [.null, .null, .null, .int 0, .int 0, .int 0]))]]) := hD
  refine lv_aload_n hx hb dX4_init_0 rfl (lv_at hl 0 rfl) ?_
  refine W.objInit hx hb hown (hts _ tw_1_93) (hts _ tw_1_26) (hts _ tw_1_27) rfl (by rw [hml]; exact hl.1) rfl dX4_init_1 (Nat.le_of_ble_eq_true rfl) (Nat.le_of_ble_eq_true rfl) ?_
  refine W.eq (g2 := F0 m 4 ls []) rfl ?_
  refine lv_aload_n hx hb dX4_init_4 rfl (lv_at hl 0 rfl) ?_
  refine lv_iconst (v := 3) hx hb dX4_init_5 li_3 ?_
  refine lv_iconst (v := 4) hx hb dX4_init_6 li_4 ?_
  refine my_mna (ty := .int) (cy := G.2.1 0) (N' := 3) (K' := 4) (z := (4, .inl (fun _ => 0))) hx hb hown (hts _ tw_1_94) hG.2.2.2.2.2.2.2.2 (hts _ tw_1_87) (hG.1.2 0 _ rfl).2 hG.1 hP hD hS hA (by decide) (by decide) (by decide) (by decide) (by decide) (by decide) (by decide) rfl rfl (Nat.le_of_ble_eq_true rfl) (Nat.le_of_ble_eq_true rfl) (fun _ => rfl) dX4_init_7 (fun q1 r1 cA H hK1 hP hD hS => ?_)
  have eA := ca_eq 4 rfl hK1 (fun _ h => h)
  subst eA
  have hP : va_P G.1 vwCl (List.flatten [[(q, .inr (4, [.null, .null, .null, .int 0, .int 0, .int 0]))], [(q1, .inl (G.2.1 4, 3, .inr (.inr (.inr (.inr (fun i => if i < 3 then some (r1 i) else none))))))], [(r1 0, .inl (G.2.1 0, 4, .inl (fun _ => 0))), (r1 1, .inl (G.2.1 0, 4, .inl (fun _ => 0))), (r1 2, .inl (G.2.1 0, 4, .inl (fun _ => 0)))]]) H := hP
  have hD : va_D A (List.flatten [[(q, .inr (4, [.null, .null, .null, .int 0, .int 0, .int 0]))], [(q1, .inl (G.2.1 4, 3, .inr (.inr (.inr (.inr (fun i => if i < 3 then some (r1 i) else none))))))], [(r1 0, .inl (G.2.1 0, 4, .inl (fun _ => 0))), (r1 1, .inl (G.2.1 0, 4, .inl (fun _ => 0))), (r1 2, .inl (G.2.1 0, 4, .inl (fun _ => 0)))]]) := hD
  refine va_putF (D := G.1) (cl := vwCl) (tys := tysG G) (ci := 4) (v := .ref q1) (ty := .array (.array .int)) (C := RX4) (T := TX4) (N := 6) hx hb hts iX4 tyX4 tyX4_ok nmX4 hown hG.1 hP hD hS 0 rfl rfl 0 (Nat.le_of_ble_eq_true rfl) (hts _ tw_1_96) (fun _ h9 => h9) rfl hin rfl (by decide +kernel) rfl rfl (Nat.le_of_ble_eq_true rfl) dX4_init_11 (fun H locs hP hD hS => ?_)
  have hP : va_P G.1 vwCl (List.flatten [[(q, .inr (4, [.ref q1, .null, .null, .int 0, .int 0, .int 0]))], [(q1, .inl (G.2.1 4, 3, .inr (.inr (.inr (.inr (fun i => if i < 3 then some (r1 i) else none))))))], [(r1 0, .inl (G.2.1 0, 4, .inl (fun _ => 0))), (r1 1, .inl (G.2.1 0, 4, .inl (fun _ => 0))), (r1 2, .inl (G.2.1 0, 4, .inl (fun _ => 0)))]]) H := hP
  have hD : va_D A (List.flatten [[(q, .inr (4, [.ref q1, .null, .null, .int 0, .int 0, .int 0]))], [(q1, .inl (G.2.1 4, 3, .inr (.inr (.inr (.inr (fun i => if i < 3 then some (r1 i) else none))))))], [(r1 0, .inl (G.2.1 0, 4, .inl (fun _ => 0))), (r1 1, .inl (G.2.1 0, 4, .inl (fun _ => 0))), (r1 2, .inl (G.2.1 0, 4, .inl (fun _ => 0)))]]) := hD
  refine lv_aload_n hx hb dX4_init_14 rfl (lv_at hl 0 rfl) ?_
  refine lv_iconst (v := 4) hx hb dX4_init_15 li_4 ?_
  refine lv_iconst (v := 4) hx hb dX4_init_16 li_4 ?_
  refine my_mna (ty := .int) (cy := G.2.1 0) (N' := 4) (K' := 4) (z := (4, .inl (fun _ => 0))) hx hb hown (hts _ tw_1_94) hG.2.2.2.2.2.2.2.2 (hts _ tw_1_87) (hG.1.2 0 _ rfl).2 hG.1 hP hD hS hA (by decide) (by decide) (by decide) (by decide) (by decide) (by decide) (by decide) rfl rfl (Nat.le_of_ble_eq_true rfl) (Nat.le_of_ble_eq_true rfl) (fun _ => rfl) dX4_init_17 (fun q2 r2 cA H hK1 hP hD hS => ?_)
  have eA := ca_eq 4 rfl hK1 (fun _ h => h)
  subst eA
  have hP : va_P G.1 vwCl (List.flatten [[(q, .inr (4, [.ref q1, .null, .null, .int 0, .int 0, .int 0]))], [(q1, .inl (G.2.1 4, 3, .inr (.inr (.inr (.inr (fun i => if i < 3 then some (r1 i) else none))))))], [(r1 0, .inl (G.2.1 0, 4, .inl (fun _ => 0))), (r1 1, .inl (G.2.1 0, 4, .inl (fun _ => 0))), (r1 2, .inl (G.2.1 0, 4, .inl (fun _ => 0)))], [(q2, .inl (G.2.1 4, 4, .inr (.inr (.inr (.inr (fun i => if i < 4 then some (r2 i) else none))))))], [(r2 0, .inl (G.2.1 0, 4, .inl (fun _ => 0))), (r2 1, .inl (G.2.1 0, 4, .inl (fun _ => 0))), (r2 2, .inl (G.2.1 0, 4, .inl (fun _ => 0))), (r2 3, .inl (G.2.1 0, 4, .inl (fun _ => 0)))]]) H := hP
  have hD : va_D A (List.flatten [[(q, .inr (4, [.ref q1, .null, .null, .int 0, .int 0, .int 0]))], [(q1, .inl (G.2.1 4, 3, .inr (.inr (.inr (.inr (fun i => if i < 3 then some (r1 i) else none))))))], [(r1 0, .inl (G.2.1 0, 4, .inl (fun _ => 0))), (r1 1, .inl (G.2.1 0, 4, .inl (fun _ => 0))), (r1 2, .inl (G.2.1 0, 4, .inl (fun _ => 0)))], [(q2, .inl (G.2.1 4, 4, .inr (.inr (.inr (.inr (fun i => if i < 4 then some (r2 i) else none))))))], [(r2 0, .inl (G.2.1 0, 4, .inl (fun _ => 0))), (r2 1, .inl (G.2.1 0, 4, .inl (fun _ => 0))), (r2 2, .inl (G.2.1 0, 4, .inl (fun _ => 0))), (r2 3, .inl (G.2.1 0, 4, .inl (fun _ => 0)))]]) := hD
  refine va_putF (D := G.1) (cl := vwCl) (tys := tysG G) (ci := 4) (v := .ref q2) (ty := .array (.array .int)) (C := RX4) (T := TX4) (N := 6) hx hb hts iX4 tyX4 tyX4_ok nmX4 hown hG.1 hP hD hS 0 rfl rfl 1 (Nat.le_of_ble_eq_true rfl) (hts _ tw_1_98) (fun _ h9 => h9) rfl hin rfl (by decide +kernel) rfl rfl (Nat.le_of_ble_eq_true rfl) dX4_init_21 (fun H locs hP hD hS => ?_)
  have hP : va_P G.1 vwCl (List.flatten [[(q, .inr (4, [.ref q1, .ref q2, .null, .int 0, .int 0, .int 0]))], [(q1, .inl (G.2.1 4, 3, .inr (.inr (.inr (.inr (fun i => if i < 3 then some (r1 i) else none))))))], [(r1 0, .inl (G.2.1 0, 4, .inl (fun _ => 0))), (r1 1, .inl (G.2.1 0, 4, .inl (fun _ => 0))), (r1 2, .inl (G.2.1 0, 4, .inl (fun _ => 0)))], [(q2, .inl (G.2.1 4, 4, .inr (.inr (.inr (.inr (fun i => if i < 4 then some (r2 i) else none))))))], [(r2 0, .inl (G.2.1 0, 4, .inl (fun _ => 0))), (r2 1, .inl (G.2.1 0, 4, .inl (fun _ => 0))), (r2 2, .inl (G.2.1 0, 4, .inl (fun _ => 0))), (r2 3, .inl (G.2.1 0, 4, .inl (fun _ => 0)))]]) H := hP
  have hD : va_D A (List.flatten [[(q, .inr (4, [.ref q1, .ref q2, .null, .int 0, .int 0, .int 0]))], [(q1, .inl (G.2.1 4, 3, .inr (.inr (.inr (.inr (fun i => if i < 3 then some (r1 i) else none))))))], [(r1 0, .inl (G.2.1 0, 4, .inl (fun _ => 0))), (r1 1, .inl (G.2.1 0, 4, .inl (fun _ => 0))), (r1 2, .inl (G.2.1 0, 4, .inl (fun _ => 0)))], [(q2, .inl (G.2.1 4, 4, .inr (.inr (.inr (.inr (fun i => if i < 4 then some (r2 i) else none))))))], [(r2 0, .inl (G.2.1 0, 4, .inl (fun _ => 0))), (r2 1, .inl (G.2.1 0, 4, .inl (fun _ => 0))), (r2 2, .inl (G.2.1 0, 4, .inl (fun _ => 0))), (r2 3, .inl (G.2.1 0, 4, .inl (fun _ => 0)))]]) := hD
  refine lv_aload_n hx hb dX4_init_24 rfl (lv_at hl 0 rfl) ?_
  refine lv_bipush (v := 6) hx hb dX4_init_25 lb_6 ?_
  refine va_newa (atype := .int) (ty := .int) (a0 := (6, .inl (fun _ => 0))) hx hb (hts _ tw_1_87) rfl hG.1 hP hD hS hA (fun _ => rfl) (by decide) (by decide) (by decide) (Nat.le_of_ble_eq_true rfl) (Nat.le_of_ble_eq_true rfl) dX4_init_27 (fun q3 cA H hK1 hP hD hS => ?_)
  have eA := ca_eq 0 rfl hK1 (fun _ h => h)
  subst eA
  have hP : va_P G.1 vwCl (List.flatten [[(q, .inr (4, [.ref q1, .ref q2, .null, .int 0, .int 0, .int 0]))], [(q1, .inl (G.2.1 4, 3, .inr (.inr (.inr (.inr (fun i => if i < 3 then some (r1 i) else none))))))], [(r1 0, .inl (G.2.1 0, 4, .inl (fun _ => 0))), (r1 1, .inl (G.2.1 0, 4, .inl (fun _ => 0))), (r1 2, .inl (G.2.1 0, 4, .inl (fun _ => 0)))], [(q2, .inl (G.2.1 4, 4, .inr (.inr (.inr (.inr (fun i => if i < 4 then some (r2 i) else none))))))], [(r2 0, .inl (G.2.1 0, 4, .inl (fun _ => 0))), (r2 1, .inl (G.2.1 0, 4, .inl (fun _ => 0))), (r2 2, .inl (G.2.1 0, 4, .inl (fun _ => 0))), (r2 3, .inl (G.2.1 0, 4, .inl (fun _ => 0)))], [(q3, .inl (G.2.1 0, 6, .inl (fun _ => 0)))]]) H := fl_snoc hP
  have hD : va_D A (List.flatten [[(q, .inr (4, [.ref q1, .ref q2, .null, .int 0, .int 0, .int 0]))], [(q1, .inl (G.2.1 4, 3, .inr (.inr (.inr (.inr (fun i => if i < 3 then some (r1 i) else none))))))], [(r1 0, .inl (G.2.1 0, 4, .inl (fun _ => 0))), (r1 1, .inl (G.2.1 0, 4, .inl (fun _ => 0))), (r1 2, .inl (G.2.1 0, 4, .inl (fun _ => 0)))], [(q2, .inl (G.2.1 4, 4, .inr (.inr (.inr (.inr (fun i => if i < 4 then some (r2 i) else none))))))], [(r2 0, .inl (G.2.1 0, 4, .inl (fun _ => 0))), (r2 1, .inl (G.2.1 0, 4, .inl (fun _ => 0))), (r2 2, .inl (G.2.1 0, 4, .inl (fun _ => 0))), (r2 3, .inl (G.2.1 0, 4, .inl (fun _ => 0)))], [(q3, .inl (G.2.1 0, 6, .inl (fun _ => 0)))]]) := fl_snocD hD
  refine va_putF (D := G.1) (cl := vwCl) (tys := tysG G) (ci := 4) (v := .ref q3) (ty := .array .int) (C := RX4) (T := TX4) (N := 6) hx hb hts iX4 tyX4 tyX4_ok nmX4 hown hG.1 hP hD hS 0 rfl rfl 2 (Nat.le_of_ble_eq_true rfl) (hts _ tw_1_99) (fun _ h9 => h9) rfl hin rfl (by decide +kernel) rfl rfl (Nat.le_of_ble_eq_true rfl) dX4_init_29 (fun H locs hP hD hS => ?_)
  have hP : va_P G.1 vwCl (List.flatten [[(q, .inr (4, [.ref q1, .ref q2, .ref q3, .int 0, .int 0, .int 0]))], [(q1, .inl (G.2.1 4, 3, .inr (.inr (.inr (.inr (fun i => if i < 3 then some (r1 i) else none))))))], [(r1 0, .inl (G.2.1 0, 4, .inl (fun _ => 0))), (r1 1, .inl (G.2.1 0, 4, .inl (fun _ => 0))), (r1 2, .inl (G.2.1 0, 4, .inl (fun _ => 0)))], [(q2, .inl (G.2.1 4, 4, .inr (.inr (.inr (.inr (fun i => if i < 4 then some (r2 i) else none))))))], [(r2 0, .inl (G.2.1 0, 4, .inl (fun _ => 0))), (r2 1, .inl (G.2.1 0, 4, .inl (fun _ => 0))), (r2 2, .inl (G.2.1 0, 4, .inl (fun _ => 0))), (r2 3, .inl (G.2.1 0, 4, .inl (fun _ => 0)))], [(q3, .inl (G.2.1 0, 6, .inl (fun _ => 0)))]]) H := hP
  have hD : va_D A (List.flatten [[(q, .inr (4, [.ref q1, .ref q2, .ref q3, .int 0, .int 0, .int 0]))], [(q1, .inl (G.2.1 4, 3, .inr (.inr (.inr (.inr (fun i => if i < 3 then some (r1 i) else none))))))], [(r1 0, .inl (G.2.1 0, 4, .inl (fun _ => 0))), (r1 1, .inl (G.2.1 0, 4, .inl (fun _ => 0))), (r1 2, .inl (G.2.1 0, 4, .inl (fun _ => 0)))], [(q2, .inl (G.2.1 4, 4, .inr (.inr (.inr (.inr (fun i => if i < 4 then some (r2 i) else none))))))], [(r2 0, .inl (G.2.1 0, 4, .inl (fun _ => 0))), (r2 1, .inl (G.2.1 0, 4, .inl (fun _ => 0))), (r2 2, .inl (G.2.1 0, 4, .inl (fun _ => 0))), (r2 3, .inl (G.2.1 0, 4, .inl (fun _ => 0)))], [(q3, .inl (G.2.1 0, 6, .inl (fun _ => 0)))]]) := hD
  have eh : (fun i => if i < 3 then some (r1 i) else none) = (fun i => if i < 3 then some ((fun _ k => match k with | 0 => q | 1 => q1 | 2 => q2 | 3 => q3 | 10 => r1 0 | 11 => r1 1 | 12 => r1 2 | 20 => r2 0 | 21 => r2 1 | 22 => r2 2 | 23 => r2 3 | _ => 0) 0 (10 + i)) else none) := by
    funext i
    match i with
    | 0 => rfl
    | 1 => rfl
    | 2 => rfl
    | i + 3 => rw [if_neg (by omega), if_neg (by omega)]
  have ec : (fun i => if i < 4 then some (r2 i) else none) = (fun i => if i < 4 then some ((fun _ k => match k with | 0 => q | 1 => q1 | 2 => q2 | 3 => q3 | 10 => r1 0 | 11 => r1 1 | 12 => r1 2 | 20 => r2 0 | 21 => r2 1 | 22 => r2 2 | 23 => r2 3 | _ => 0) 0 (20 + i)) else none) := by
    funext i
    match i with
    | 0 => rfl
    | 1 => rfl
    | 2 => rfl
    | 3 => rfl
    | i + 4 => rw [if_neg (by omega), if_neg (by omega)]
  rw [eh, ec] at hP hD
  exact rt_n0 K (fun _ k => match k with | 0 => q | 1 => q1 | 2 => q2 | 3 => q3 | 10 => r1 0 | 11 => r1 1 | 12 => r1 2 | 20 => r2 0 | 21 => r2 1 | 22 => r2 2 | 23 => r2 3 | _ => 0) rfl hP hD hS dX4_init_32
theorem cdX2_init : CallD yX2_init 0 := by decide +kernel
set_option maxHeartbeats 4000000 in
set_option maxRecDepth 100000 in
theorem nX2 (l : Launch) (G : GP) (q : Nat) : CN l G yX2_init cX2_init 3 15 75 q [(q, .inr (2, [.null, .null]))] (fun u => [wF (u 0 0) (u 1 0) (u 2 0), wB G (u 1) z0, wD G (u 2) z0]) := by
  refine CN.of (by decide) ?_
  intro p e s m below meth c A K hin hP hD hS ls hl
  obtain ⟨hx, hb, hr, hml, hts, hown, hlocks, hA, hG⟩ := id K
  have hP : va_P G.1 vwCl (List.flatten [[(q, .inr (2, [.null, .null]))]]) s.heap := hP
  have hD : va_D A (List.flatten [[(q, .inr (2, [.null, .null]))]]) := hD
  refine lv_aload_n hx hb dX2_init_0 rfl (lv_at hl 0 rfl) ?_
  refine W.objInit hx hb hown (hts _ tw_1_56) (hts _ tw_1_26) (hts _ tw_1_27) rfl (by rw [hml]; exact hl.1) rfl dX2_init_1 (Nat.le_of_ble_eq_true rfl) (Nat.le_of_ble_eq_true rfl) ?_
  refine W.eq (g2 := F0 m 4 ls []) rfl ?_
  refine lv_aload_n hx hb dX2_init_4 rfl (lv_at hl 0 rfl) ?_
  refine va_new (ci := 1) (fs := [.null, .null, .null, .int 0]) (C := RX1) (T := TX1) (N := 4) hx hb hts iX1 tyX1 tyX1_ok hown (hts _ tw_1_57) (hts _ tw_1_58) (hts _ tw_1_5) hG.1 hP hD hS hA rfl (fun j hj => by rcases (show j = 0 ∨ j = 1 ∨ j = 2 ∨ j = 3 by omega) with rfl | rfl | rfl | rfl <;> rfl) (Nat.le_of_ble_eq_true rfl) (Nat.le_of_ble_eq_true rfl) dX2_init_5 (fun q1 H hP hD hS => ?_)
  have hP : va_P G.1 vwCl (List.flatten [[(q, .inr (2, [.null, .null]))], [(q1, .inr (1, [.null, .null, .null, .int 0]))]]) H := fl_snoc hP
  have hD : va_D A (List.flatten [[(q, .inr (2, [.null, .null]))], [(q1, .inr (1, [.null, .null, .null, .int 0]))]]) := fl_snocD hD
  refine lv_dup hx hb dX2_init_8 rfl ?_
  refine ln_IN (pre := [[(q, .inr (2, [.null, .null]))]]) K (nX1 l G q1) tw_1_61 tw_1_5 tw_1_60 tw_1_59 rfl cdX1_init ⟨Nat.le_of_ble_eq_true rfl, Nat.le_of_ble_eq_true rfl⟩ hP hD hS hl.1 (Nat.le_of_ble_eq_true rfl) ⟨Nat.le_of_ble_eq_true rfl, Nat.le_of_ble_eq_true rfl⟩ dX2_init_9 (fun u1 H locs eq1 hP9 hD9 hS9 => ?_)
  clear hP hD hS
  subst eq1
  have hS := hS9
  have hP : va_P G.1 vwCl (List.flatten [[(q, .inr (2, [.null, .null]))], wB G (u1 0) z0]) H := hP9
  have hD : va_D A (List.flatten [[(q, .inr (2, [.null, .null]))], wB G (u1 0) z0]) := hD9
  refine va_putF (D := G.1) (cl := vwCl) (tys := tysG G) (ci := 2) (v := .ref (u1 0 0)) (ty := .object "ShadowCount$Bodies") (C := RX2) (T := TX2) (N := 2) hx hb hts iX2 tyX2 tyX2_ok nmX2 hown hG.1 hP hD hS 0 rfl rfl 0 (Nat.le_of_ble_eq_true rfl) (hts _ tw_1_123) (fun _ h9 => h9) rfl hin rfl (by decide +kernel) rfl rfl (Nat.le_of_ble_eq_true rfl) dX2_init_12 (fun H locs hP hD hS => ?_)
  have hP : va_P G.1 vwCl (List.flatten [[(q, .inr (2, [.ref (u1 0 0), .null]))], wB G (u1 0) z0]) H := hP
  have hD : va_D A (List.flatten [[(q, .inr (2, [.ref (u1 0 0), .null]))], wB G (u1 0) z0]) := hD
  refine lv_aload_n hx hb dX2_init_15 rfl (lv_at hl 0 rfl) ?_
  refine va_new (ci := 4) (fs := [.null, .null, .null, .int 0, .int 0, .int 0]) (C := RX4) (T := TX4) (N := 6) hx hb hts iX4 tyX4 tyX4_ok hown (hts _ tw_1_88) (hts _ tw_1_89) (hts _ tw_1_6) hG.1 hP hD hS hA rfl (fun j hj => by rcases (show j = 0 ∨ j = 1 ∨ j = 2 ∨ j = 3 ∨ j = 4 ∨ j = 5 by omega) with rfl | rfl | rfl | rfl | rfl | rfl <;> rfl) (Nat.le_of_ble_eq_true rfl) (Nat.le_of_ble_eq_true rfl) dX2_init_16 (fun q2 H hP hD hS => ?_)
  have hP : va_P G.1 vwCl (List.flatten [[(q, .inr (2, [.ref (u1 0 0), .null]))], wB G (u1 0) z0, [(q2, .inr (4, [.null, .null, .null, .int 0, .int 0, .int 0]))]]) H := fl_snoc hP
  have hD : va_D A (List.flatten [[(q, .inr (2, [.ref (u1 0 0), .null]))], wB G (u1 0) z0, [(q2, .inr (4, [.null, .null, .null, .int 0, .int 0, .int 0]))]]) := fl_snocD hD
  refine lv_dup hx hb dX2_init_19 rfl ?_
  refine ln_IN (pre := [[(q, .inr (2, [.ref (u1 0 0), .null]))], wB G (u1 0) z0]) K (nX4 l G q2) tw_1_92 tw_1_6 tw_1_91 tw_1_90 rfl cdX4_init ⟨Nat.le_of_ble_eq_true rfl, Nat.le_of_ble_eq_true rfl⟩ hP hD hS hl.1 (Nat.le_of_ble_eq_true rfl) ⟨Nat.le_of_ble_eq_true rfl, Nat.le_of_ble_eq_true rfl⟩ dX2_init_20 (fun u2 H locs eq2 hP9 hD9 hS9 => ?_)
  clear hP hD hS
  subst eq2
  have hS := hS9
  have hP : va_P G.1 vwCl (List.flatten [[(q, .inr (2, [.ref (u1 0 0), .null]))], wB G (u1 0) z0, wD G (u2 0) z0]) H := hP9
  have hD : va_D A (List.flatten [[(q, .inr (2, [.ref (u1 0 0), .null]))], wB G (u1 0) z0, wD G (u2 0) z0]) := hD9
  refine va_putF (D := G.1) (cl := vwCl) (tys := tysG G) (ci := 2) (v := .ref (u2 0 0)) (ty := .object "ShadowCount$Ground") (C := RX2) (T := TX2) (N := 2) hx hb hts iX2 tyX2 tyX2_ok nmX2 hown hG.1 hP hD hS 0 rfl rfl 1 (Nat.le_of_ble_eq_true rfl) (hts _ tw_1_126) (fun _ h9 => h9) rfl hin rfl (by decide +kernel) rfl rfl (Nat.le_of_ble_eq_true rfl) dX2_init_23 (fun H locs hP hD hS => ?_)
  have hP : va_P G.1 vwCl (List.flatten [[(q, .inr (2, [.ref (u1 0 0), .ref (u2 0 0)]))], wB G (u1 0) z0, wD G (u2 0) z0]) H := hP
  have hD : va_D A (List.flatten [[(q, .inr (2, [.ref (u1 0 0), .ref (u2 0 0)]))], wB G (u1 0) z0, wD G (u2 0) z0]) := hD
  exact rt_n0 K (fun i => match i with | 0 => fun _ => q | 1 => u1 0 | _ => u2 0) rfl hP hD hS dX2_init_26
theorem cdX8_init : CallD yX8_init 0 := by decide +kernel
set_option maxHeartbeats 4000000 in
set_option maxRecDepth 100000 in
theorem nX8 (l : Launch) (G : GP) (q : Nat) : CN l G yX8_init cX8_init 3 7 43 q [(q, .inr (8, [.null, .null, .int 0]))] (fun u => [wL (u 0 0) (u 1 0) (u 2 0) z0, wB G (u 1) z0, wS G (u 2) z0]) := by
  refine CN.of (by decide) ?_
  intro p e s m below meth c A K hin hP hD hS ls hl
  obtain ⟨hx, hb, hr, hml, hts, hown, hlocks, hA, hG⟩ := id K
  have hP : va_P G.1 vwCl (List.flatten [[(q, .inr (8, [.null, .null, .int 0]))]]) s.heap := hP
  have hD : va_D A (List.flatten [[(q, .inr (8, [.null, .null, .int 0]))]]) := hD
  refine lv_aload_n hx hb dX8_init_0 rfl (lv_at hl 0 rfl) ?_
  refine W.objInit hx hb hown (hts _ tw_2_24) (hts _ tw_1_26) (hts _ tw_1_27) rfl (by rw [hml]; exact hl.1) rfl dX8_init_1 (Nat.le_of_ble_eq_true rfl) (Nat.le_of_ble_eq_true rfl) ?_
  refine W.eq (g2 := F0 m 4 ls []) rfl ?_
  refine lv_aload_n hx hb dX8_init_4 rfl (lv_at hl 0 rfl) ?_
  refine va_new (ci := 1) (fs := [.null, .null, .null, .int 0]) (C := RX1) (T := TX1) (N := 4) hx hb hts iX1 tyX1 tyX1_ok hown (hts _ tw_2_25) (hts _ tw_1_58) (hts _ tw_1_5) hG.1 hP hD hS hA rfl (fun j hj => by rcases (show j = 0 ∨ j = 1 ∨ j = 2 ∨ j = 3 by omega) with rfl | rfl | rfl | rfl <;> rfl) (Nat.le_of_ble_eq_true rfl) (Nat.le_of_ble_eq_true rfl) dX8_init_5 (fun q1 H hP hD hS => ?_)
  have hP : va_P G.1 vwCl (List.flatten [[(q, .inr (8, [.null, .null, .int 0]))], [(q1, .inr (1, [.null, .null, .null, .int 0]))]]) H := fl_snoc hP
  have hD : va_D A (List.flatten [[(q, .inr (8, [.null, .null, .int 0]))], [(q1, .inr (1, [.null, .null, .null, .int 0]))]]) := fl_snocD hD
  refine lv_dup hx hb dX8_init_8 rfl ?_
  refine ln_IN (pre := [[(q, .inr (8, [.null, .null, .int 0]))]]) K (nX1 l G q1) tw_1_61 tw_1_5 tw_1_60 tw_2_26 rfl cdX1_init ⟨Nat.le_of_ble_eq_true rfl, Nat.le_of_ble_eq_true rfl⟩ hP hD hS hl.1 (Nat.le_of_ble_eq_true rfl) ⟨Nat.le_of_ble_eq_true rfl, Nat.le_of_ble_eq_true rfl⟩ dX8_init_9 (fun u1 H locs eq1 hP9 hD9 hS9 => ?_)
  clear hP hD hS
  subst eq1
  have hS := hS9
  have hP : va_P G.1 vwCl (List.flatten [[(q, .inr (8, [.null, .null, .int 0]))], wB G (u1 0) z0]) H := hP9
  have hD : va_D A (List.flatten [[(q, .inr (8, [.null, .null, .int 0]))], wB G (u1 0) z0]) := hD9
  refine va_putF (D := G.1) (cl := vwCl) (tys := tysG G) (ci := 8) (v := .ref (u1 0 0)) (ty := .object "ShadowCount$Bodies") (C := RX8) (T := TX8) (N := 3) hx hb hts iX8 tyX8 tyX8_ok nmX8 hown hG.1 hP hD hS 0 rfl rfl 0 (Nat.le_of_ble_eq_true rfl) (hts _ tw_2_29) (fun _ h9 => h9) rfl hin rfl (by decide +kernel) rfl rfl (Nat.le_of_ble_eq_true rfl) dX8_init_12 (fun H locs hP hD hS => ?_)
  have hP : va_P G.1 vwCl (List.flatten [[(q, .inr (8, [.ref (u1 0 0), .null, .int 0]))], wB G (u1 0) z0]) H := hP
  have hD : va_D A (List.flatten [[(q, .inr (8, [.ref (u1 0 0), .null, .int 0]))], wB G (u1 0) z0]) := hD
  refine lv_aload_n hx hb dX8_init_15 rfl (lv_at hl 0 rfl) ?_
  refine va_new (ci := 7) (fs := [.null, .null, .int 0]) (C := RX7) (T := TX7) (N := 3) hx hb hts iX7 tyX7 tyX7_ok hown (hts _ tw_2_27) (hts _ tw_1_207) (hts _ tw_1_9) hG.1 hP hD hS hA rfl (fun j hj => by rcases (show j = 0 ∨ j = 1 ∨ j = 2 by omega) with rfl | rfl | rfl <;> rfl) (Nat.le_of_ble_eq_true rfl) (Nat.le_of_ble_eq_true rfl) dX8_init_16 (fun q2 H hP hD hS => ?_)
  have hP : va_P G.1 vwCl (List.flatten [[(q, .inr (8, [.ref (u1 0 0), .null, .int 0]))], wB G (u1 0) z0, [(q2, .inr (7, [.null, .null, .int 0]))]]) H := fl_snoc hP
  have hD : va_D A (List.flatten [[(q, .inr (8, [.ref (u1 0 0), .null, .int 0]))], wB G (u1 0) z0, [(q2, .inr (7, [.null, .null, .int 0]))]]) := fl_snocD hD
  refine lv_dup hx hb dX8_init_19 rfl ?_
  refine ln_IN (pre := [[(q, .inr (8, [.ref (u1 0 0), .null, .int 0]))], wB G (u1 0) z0]) K (nX7 l G q2) tw_1_210 tw_1_9 tw_1_209 tw_2_28 rfl cdX7_init ⟨Nat.le_of_ble_eq_true rfl, Nat.le_of_ble_eq_true rfl⟩ hP hD hS hl.1 (Nat.le_of_ble_eq_true rfl) ⟨Nat.le_of_ble_eq_true rfl, Nat.le_of_ble_eq_true rfl⟩ dX8_init_20 (fun u2 H locs eq2 hP9 hD9 hS9 => ?_)
  clear hP hD hS
  subst eq2
  have hS := hS9
  have hP : va_P G.1 vwCl (List.flatten [[(q, .inr (8, [.ref (u1 0 0), .null, .int 0]))], wB G (u1 0) z0, wS G (u2 0) z0]) H := hP9
  have hD : va_D A (List.flatten [[(q, .inr (8, [.ref (u1 0 0), .null, .int 0]))], wB G (u1 0) z0, wS G (u2 0) z0]) := hD9
  refine va_putF (D := G.1) (cl := vwCl) (tys := tysG G) (ci := 8) (v := .ref (u2 0 0)) (ty := .object "ShadowCount$Sights") (C := RX8) (T := TX8) (N := 3) hx hb hts iX8 tyX8 tyX8_ok nmX8 hown hG.1 hP hD hS 0 rfl rfl 1 (Nat.le_of_ble_eq_true rfl) (hts _ tw_2_31) (fun _ h9 => h9) rfl hin rfl (by decide +kernel) rfl rfl (Nat.le_of_ble_eq_true rfl) dX8_init_23 (fun H locs hP hD hS => ?_)
  have hP : va_P G.1 vwCl (List.flatten [[(q, .inr (8, [.ref (u1 0 0), .ref (u2 0 0), .int 0]))], wB G (u1 0) z0, wS G (u2 0) z0]) H := hP
  have hD : va_D A (List.flatten [[(q, .inr (8, [.ref (u1 0 0), .ref (u2 0 0), .int 0]))], wB G (u1 0) z0, wS G (u2 0) z0]) := hD
  exact rt_n0 K (fun i => match i with | 0 => fun _ => q | 1 => u1 0 | _ => u2 0) rfl hP hD hS dX8_init_26
theorem cdX5_init : CallD yX5_init 0 := by decide +kernel
set_option maxHeartbeats 4000000 in
set_option maxRecDepth 100000 in
theorem nX5 (l : Launch) (G : GP) (q : Nat) : CN l G yX5_init cX5_init 4 17 81 q [(q, .inr (5, [.null, .null, .int 0, .int 0, .int 0]))] (fun u => [wE G (u 0) (u 1 0) z0, wF (u 1 0) (u 2 0) (u 3 0), wB G (u 2) z0, wD G (u 3) z0]) := by
  refine CN.of (by decide) ?_
  intro p e s m below meth c A K hin hP hD hS ls hl
  obtain ⟨hx, hb, hr, hml, hts, hown, hlocks, hA, hG⟩ := id K
  have hP : va_P G.1 vwCl (List.flatten [[(q, .inr (5, [.null, .null, .int 0, .int 0, .int 0]))]]) s.heap := hP
  have hD : va_D A (List.flatten [[(q, .inr (5, [.null, .null, .int 0, .int 0, .int 0]))]]) := hD
  refine lv_aload_n hx hb dX5_init_0 rfl (lv_at hl 0 rfl) ?_
  refine W.objInit hx hb hown (hts _ tw_1_50) (hts _ tw_1_26) (hts _ tw_1_27) rfl (by rw [hml]; exact hl.1) rfl dX5_init_1 (Nat.le_of_ble_eq_true rfl) (Nat.le_of_ble_eq_true rfl) ?_
  refine W.eq (g2 := F0 m 4 ls []) rfl ?_
  refine lv_aload_n hx hb dX5_init_4 rfl (lv_at hl 0 rfl) ?_
  refine va_new (ci := 2) (fs := [.null, .null]) (C := RX2) (T := TX2) (N := 2) hx hb hts iX2 tyX2 tyX2_ok hown (hts _ tw_1_51) (hts _ tw_1_52) (hts _ tw_1_4) hG.1 hP hD hS hA rfl (fun j hj => by rcases (show j = 0 ∨ j = 1 by omega) with rfl | rfl <;> rfl) (Nat.le_of_ble_eq_true rfl) (Nat.le_of_ble_eq_true rfl) dX5_init_5 (fun q1 H hP hD hS => ?_)
  have hP : va_P G.1 vwCl (List.flatten [[(q, .inr (5, [.null, .null, .int 0, .int 0, .int 0]))], [(q1, .inr (2, [.null, .null]))]]) H := fl_snoc hP
  have hD : va_D A (List.flatten [[(q, .inr (5, [.null, .null, .int 0, .int 0, .int 0]))], [(q1, .inr (2, [.null, .null]))]]) := fl_snocD hD
  refine lv_dup hx hb dX5_init_8 rfl ?_
  refine ln_IN (pre := [[(q, .inr (5, [.null, .null, .int 0, .int 0, .int 0]))]]) K (nX2 l G q1) tw_1_55 tw_1_4 tw_1_54 tw_1_53 rfl cdX2_init ⟨Nat.le_of_ble_eq_true rfl, Nat.le_of_ble_eq_true rfl⟩ hP hD hS hl.1 (Nat.le_of_ble_eq_true rfl) ⟨Nat.le_of_ble_eq_true rfl, Nat.le_of_ble_eq_true rfl⟩ dX5_init_9 (fun u1 H locs eq1 hP9 hD9 hS9 => ?_)
  clear hP hD hS
  subst eq1
  have hS := hS9
  have hP : va_P G.1 vwCl (List.flatten [[(q, .inr (5, [.null, .null, .int 0, .int 0, .int 0]))], wF (u1 0 0) (u1 1 0) (u1 2 0), wB G (u1 1) z0, wD G (u1 2) z0]) H := hP9
  have hD : va_D A (List.flatten [[(q, .inr (5, [.null, .null, .int 0, .int 0, .int 0]))], wF (u1 0 0) (u1 1 0) (u1 2 0), wB G (u1 1) z0, wD G (u1 2) z0]) := hD9
  refine va_putF (D := G.1) (cl := vwCl) (tys := tysG G) (ci := 5) (v := .ref (u1 0 0)) (ty := .object "ShadowCount$Field") (C := RX5) (T := TX5) (N := 5) hx hb hts iX5 tyX5 tyX5_ok nmX5 hown hG.1 hP hD hS 0 rfl rfl 0 (Nat.le_of_ble_eq_true rfl) (hts _ tw_1_135) (fun _ h9 => h9) rfl hin rfl (by decide +kernel) rfl rfl (Nat.le_of_ble_eq_true rfl) dX5_init_12 (fun H locs hP hD hS => ?_)
  have hP : va_P G.1 vwCl (List.flatten [[(q, .inr (5, [.ref (u1 0 0), .null, .int 0, .int 0, .int 0]))], wF (u1 0 0) (u1 1 0) (u1 2 0), wB G (u1 1) z0, wD G (u1 2) z0]) H := hP
  have hD : va_D A (List.flatten [[(q, .inr (5, [.ref (u1 0 0), .null, .int 0, .int 0, .int 0]))], wF (u1 0 0) (u1 1 0) (u1 2 0), wB G (u1 1) z0, wD G (u1 2) z0]) := hD
  refine lv_aload_n hx hb dX5_init_15 rfl (lv_at hl 0 rfl) ?_
  refine lv_iconst (v := 4) hx hb dX5_init_16 li_4 ?_
  refine va_newa (atype := .int) (ty := .int) (a0 := (4, .inl (fun _ => 0))) hx hb (hts _ tw_1_87) rfl hG.1 hP hD hS hA (fun _ => rfl) (by decide) (by decide) (by decide) (Nat.le_of_ble_eq_true rfl) (Nat.le_of_ble_eq_true rfl) dX5_init_17 (fun q2 cA H hK1 hP hD hS => ?_)
  have eA := ca_eq 0 rfl hK1 (fun _ h => h)
  subst eA
  have hP : va_P G.1 vwCl (List.flatten [[(q, .inr (5, [.ref (u1 0 0), .null, .int 0, .int 0, .int 0]))], wF (u1 0 0) (u1 1 0) (u1 2 0), wB G (u1 1) z0, wD G (u1 2) z0, [(q2, .inl (G.2.1 0, 4, .inl (fun _ => 0)))]]) H := fl_snoc hP
  have hD : va_D A (List.flatten [[(q, .inr (5, [.ref (u1 0 0), .null, .int 0, .int 0, .int 0]))], wF (u1 0 0) (u1 1 0) (u1 2 0), wB G (u1 1) z0, wD G (u1 2) z0, [(q2, .inl (G.2.1 0, 4, .inl (fun _ => 0)))]]) := fl_snocD hD
  refine va_putF (D := G.1) (cl := vwCl) (tys := tysG G) (ci := 5) (v := .ref q2) (ty := .array .int) (C := RX5) (T := TX5) (N := 5) hx hb hts iX5 tyX5 tyX5_ok nmX5 hown hG.1 hP hD hS 0 rfl rfl 1 (Nat.le_of_ble_eq_true rfl) (hts _ tw_1_137) (fun _ h9 => h9) rfl hin rfl (by decide +kernel) rfl rfl (Nat.le_of_ble_eq_true rfl) dX5_init_19 (fun H locs hP hD hS => ?_)
  have hP : va_P G.1 vwCl (List.flatten [[(q, .inr (5, [.ref (u1 0 0), .ref q2, .int 0, .int 0, .int 0]))], wF (u1 0 0) (u1 1 0) (u1 2 0), wB G (u1 1) z0, wD G (u1 2) z0, [(q2, .inl (G.2.1 0, 4, .inl (fun _ => 0)))]]) H := hP
  have hD : va_D A (List.flatten [[(q, .inr (5, [.ref (u1 0 0), .ref q2, .int 0, .int 0, .int 0]))], wF (u1 0 0) (u1 1 0) (u1 2 0), wB G (u1 1) z0, wD G (u1 2) z0, [(q2, .inl (G.2.1 0, 4, .inl (fun _ => 0)))]]) := hD
  have hP := mv_last hP
  have hD := mv_lastD hD
  exact rt_n0 K (fun i => match i with | 0 => fun k => (match k with | 0 => q | _ => q2) | 1 => u1 0 | 2 => u1 1 | _ => u1 2) rfl hP hD hS dX5_init_22
theorem cdX11_init : CallD yX11_init 0 := by decide +kernel
set_option maxHeartbeats 4000000 in
set_option maxRecDepth 100000 in
theorem nX11 (l : Launch) (G : GP) (q : Nat) : CN l G yX11_init cX11_init 2 20 17652 q [(q, .inr (11, [.null, .null, .null, .null, .int 0, .int 0, .int 0, .null, .null, .null, .null, .int 0, .int 0, .int 0, .int 0, .null, .int 0, .int 0, .int 0, .int 0, .int 0, .null, .null, .int 0, .null, .null, .null, .int 0, .int 0, .int 0, .int 0, .null, .null, .null, .null, .null, .null]))] (fun u => [wX G (u 0) z0]) := by
  refine CN.of (by decide) ?_
  intro p e s m below meth c A K hin hP hD hS ls hl
  obtain ⟨hx, hb, hr, hml, hts, hown, hlocks, hA, hG⟩ := id K
  have hP : va_P G.1 vwCl (List.flatten [[(q, .inr (11, [.null, .null, .null, .null, .int 0, .int 0, .int 0, .null, .null, .null, .null, .int 0, .int 0, .int 0, .int 0, .null, .int 0, .int 0, .int 0, .int 0, .int 0, .null, .null, .int 0, .null, .null, .null, .int 0, .int 0, .int 0, .int 0, .null, .null, .null, .null, .null, .null]))]]) s.heap := hP
  have hD : va_D A (List.flatten [[(q, .inr (11, [.null, .null, .null, .null, .int 0, .int 0, .int 0, .null, .null, .null, .null, .int 0, .int 0, .int 0, .int 0, .null, .int 0, .int 0, .int 0, .int 0, .int 0, .null, .null, .int 0, .null, .null, .null, .int 0, .int 0, .int 0, .int 0, .null, .null, .null, .null, .null, .null]))]]) := hD
  refine lv_aload_n hx hb dX11_init_0 rfl (lv_at hl 0 rfl) ?_
  refine W.objInit hx hb hown (hts _ tw_4_97) (hts _ tw_1_26) (hts _ tw_1_27) rfl (by rw [hml]; exact hl.1) rfl dX11_init_1 (Nat.le_of_ble_eq_true rfl) (Nat.le_of_ble_eq_true rfl) ?_
  refine W.eq (g2 := F0 m 4 ls []) rfl ?_
  refine lv_aload_n hx hb dX11_init_4 rfl (lv_at hl 0 rfl) ?_
  refine lv_bipush (v := 24) hx hb dX11_init_5 lb_24 ?_
  refine va_newa (atype := .int) (ty := .int) (a0 := (24, .inl (fun _ => 0))) hx hb (hts _ tw_1_87) rfl hG.1 hP hD hS hA (fun _ => rfl) (by decide) (by decide) (by decide) (Nat.le_of_ble_eq_true rfl) (Nat.le_of_ble_eq_true rfl) dX11_init_7 (fun q1 cA H hK1 hP hD hS => ?_)
  have eA := ca_eq 0 rfl hK1 (fun _ h => h)
  subst eA
  have hP : va_P G.1 vwCl (List.flatten [[(q, .inr (11, [.null, .null, .null, .null, .int 0, .int 0, .int 0, .null, .null, .null, .null, .int 0, .int 0, .int 0, .int 0, .null, .int 0, .int 0, .int 0, .int 0, .int 0, .null, .null, .int 0, .null, .null, .null, .int 0, .int 0, .int 0, .int 0, .null, .null, .null, .null, .null, .null]))], [(q1, .inl (G.2.1 0, 24, .inl (fun _ => 0)))]]) H := fl_snoc hP
  have hD : va_D A (List.flatten [[(q, .inr (11, [.null, .null, .null, .null, .int 0, .int 0, .int 0, .null, .null, .null, .null, .int 0, .int 0, .int 0, .int 0, .null, .int 0, .int 0, .int 0, .int 0, .int 0, .null, .null, .int 0, .null, .null, .null, .int 0, .int 0, .int 0, .int 0, .null, .null, .null, .null, .null, .null]))], [(q1, .inl (G.2.1 0, 24, .inl (fun _ => 0)))]]) := fl_snocD hD
  refine va_putF (D := G.1) (cl := vwCl) (tys := tysG G) (ci := 11) (v := .ref q1) (ty := .array .int) (C := RX11) (T := TX11) (N := 37) hx hb hts iX11 tyX11 tyX11_ok nmX11 hown hG.1 hP hD hS 0 rfl rfl 0 (Nat.le_of_ble_eq_true rfl) (hts _ tw_4_98) (fun _ h9 => h9) rfl hin rfl (by decide +kernel) rfl rfl (Nat.le_of_ble_eq_true rfl) dX11_init_9 (fun H locs hP hD hS => ?_)
  have hP : va_P G.1 vwCl (List.flatten [[(q, .inr (11, [.ref q1, .null, .null, .null, .int 0, .int 0, .int 0, .null, .null, .null, .null, .int 0, .int 0, .int 0, .int 0, .null, .int 0, .int 0, .int 0, .int 0, .int 0, .null, .null, .int 0, .null, .null, .null, .int 0, .int 0, .int 0, .int 0, .null, .null, .null, .null, .null, .null]))], [(q1, .inl (G.2.1 0, 24, .inl (fun _ => 0)))]]) H := hP
  have hD : va_D A (List.flatten [[(q, .inr (11, [.ref q1, .null, .null, .null, .int 0, .int 0, .int 0, .null, .null, .null, .null, .int 0, .int 0, .int 0, .int 0, .null, .int 0, .int 0, .int 0, .int 0, .int 0, .null, .null, .int 0, .null, .null, .null, .int 0, .int 0, .int 0, .int 0, .null, .null, .null, .null, .null, .null]))], [(q1, .inl (G.2.1 0, 24, .inl (fun _ => 0)))]]) := hD
  refine lv_aload_n hx hb dX11_init_12 rfl (lv_at hl 0 rfl) ?_
  refine lv_bipush (v := 12) hx hb dX11_init_13 lb_12 ?_
  refine va_newa (atype := .int) (ty := .int) (a0 := (12, .inl (fun _ => 0))) hx hb (hts _ tw_1_87) rfl hG.1 hP hD hS hA (fun _ => rfl) (by decide) (by decide) (by decide) (Nat.le_of_ble_eq_true rfl) (Nat.le_of_ble_eq_true rfl) dX11_init_15 (fun q2 cA H hK1 hP hD hS => ?_)
  have eA := ca_eq 0 rfl hK1 (fun _ h => h)
  subst eA
  have hP : va_P G.1 vwCl (List.flatten [[(q, .inr (11, [.ref q1, .null, .null, .null, .int 0, .int 0, .int 0, .null, .null, .null, .null, .int 0, .int 0, .int 0, .int 0, .null, .int 0, .int 0, .int 0, .int 0, .int 0, .null, .null, .int 0, .null, .null, .null, .int 0, .int 0, .int 0, .int 0, .null, .null, .null, .null, .null, .null]))], [(q1, .inl (G.2.1 0, 24, .inl (fun _ => 0)))], [(q2, .inl (G.2.1 0, 12, .inl (fun _ => 0)))]]) H := fl_snoc hP
  have hD : va_D A (List.flatten [[(q, .inr (11, [.ref q1, .null, .null, .null, .int 0, .int 0, .int 0, .null, .null, .null, .null, .int 0, .int 0, .int 0, .int 0, .null, .int 0, .int 0, .int 0, .int 0, .int 0, .null, .null, .int 0, .null, .null, .null, .int 0, .int 0, .int 0, .int 0, .null, .null, .null, .null, .null, .null]))], [(q1, .inl (G.2.1 0, 24, .inl (fun _ => 0)))], [(q2, .inl (G.2.1 0, 12, .inl (fun _ => 0)))]]) := fl_snocD hD
  refine va_putF (D := G.1) (cl := vwCl) (tys := tysG G) (ci := 11) (v := .ref q2) (ty := .array .int) (C := RX11) (T := TX11) (N := 37) hx hb hts iX11 tyX11 tyX11_ok nmX11 hown hG.1 hP hD hS 0 rfl rfl 1 (Nat.le_of_ble_eq_true rfl) (hts _ tw_4_99) (fun _ h9 => h9) rfl hin rfl (by decide +kernel) rfl rfl (Nat.le_of_ble_eq_true rfl) dX11_init_17 (fun H locs hP hD hS => ?_)
  have hP : va_P G.1 vwCl (List.flatten [[(q, .inr (11, [.ref q1, .ref q2, .null, .null, .int 0, .int 0, .int 0, .null, .null, .null, .null, .int 0, .int 0, .int 0, .int 0, .null, .int 0, .int 0, .int 0, .int 0, .int 0, .null, .null, .int 0, .null, .null, .null, .int 0, .int 0, .int 0, .int 0, .null, .null, .null, .null, .null, .null]))], [(q1, .inl (G.2.1 0, 24, .inl (fun _ => 0)))], [(q2, .inl (G.2.1 0, 12, .inl (fun _ => 0)))]]) H := hP
  have hD : va_D A (List.flatten [[(q, .inr (11, [.ref q1, .ref q2, .null, .null, .int 0, .int 0, .int 0, .null, .null, .null, .null, .int 0, .int 0, .int 0, .int 0, .null, .int 0, .int 0, .int 0, .int 0, .int 0, .null, .null, .int 0, .null, .null, .null, .int 0, .int 0, .int 0, .int 0, .null, .null, .null, .null, .null, .null]))], [(q1, .inl (G.2.1 0, 24, .inl (fun _ => 0)))], [(q2, .inl (G.2.1 0, 12, .inl (fun _ => 0)))]]) := hD
  refine lv_aload_n hx hb dX11_init_20 rfl (lv_at hl 0 rfl) ?_
  refine lv_bipush (v := 16) hx hb dX11_init_21 lb_16 ?_
  refine va_newa (atype := .int) (ty := .int) (a0 := (16, .inl (fun _ => 0))) hx hb (hts _ tw_1_87) rfl hG.1 hP hD hS hA (fun _ => rfl) (by decide) (by decide) (by decide) (Nat.le_of_ble_eq_true rfl) (Nat.le_of_ble_eq_true rfl) dX11_init_23 (fun q3 cA H hK1 hP hD hS => ?_)
  have eA := ca_eq 0 rfl hK1 (fun _ h => h)
  subst eA
  have hP : va_P G.1 vwCl (List.flatten [[(q, .inr (11, [.ref q1, .ref q2, .null, .null, .int 0, .int 0, .int 0, .null, .null, .null, .null, .int 0, .int 0, .int 0, .int 0, .null, .int 0, .int 0, .int 0, .int 0, .int 0, .null, .null, .int 0, .null, .null, .null, .int 0, .int 0, .int 0, .int 0, .null, .null, .null, .null, .null, .null]))], [(q1, .inl (G.2.1 0, 24, .inl (fun _ => 0)))], [(q2, .inl (G.2.1 0, 12, .inl (fun _ => 0)))], [(q3, .inl (G.2.1 0, 16, .inl (fun _ => 0)))]]) H := fl_snoc hP
  have hD : va_D A (List.flatten [[(q, .inr (11, [.ref q1, .ref q2, .null, .null, .int 0, .int 0, .int 0, .null, .null, .null, .null, .int 0, .int 0, .int 0, .int 0, .null, .int 0, .int 0, .int 0, .int 0, .int 0, .null, .null, .int 0, .null, .null, .null, .int 0, .int 0, .int 0, .int 0, .null, .null, .null, .null, .null, .null]))], [(q1, .inl (G.2.1 0, 24, .inl (fun _ => 0)))], [(q2, .inl (G.2.1 0, 12, .inl (fun _ => 0)))], [(q3, .inl (G.2.1 0, 16, .inl (fun _ => 0)))]]) := fl_snocD hD
  refine va_putF (D := G.1) (cl := vwCl) (tys := tysG G) (ci := 11) (v := .ref q3) (ty := .array .int) (C := RX11) (T := TX11) (N := 37) hx hb hts iX11 tyX11 tyX11_ok nmX11 hown hG.1 hP hD hS 0 rfl rfl 2 (Nat.le_of_ble_eq_true rfl) (hts _ tw_4_100) (fun _ h9 => h9) rfl hin rfl (by decide +kernel) rfl rfl (Nat.le_of_ble_eq_true rfl) dX11_init_25 (fun H locs hP hD hS => ?_)
  have hP : va_P G.1 vwCl (List.flatten [[(q, .inr (11, [.ref q1, .ref q2, .ref q3, .null, .int 0, .int 0, .int 0, .null, .null, .null, .null, .int 0, .int 0, .int 0, .int 0, .null, .int 0, .int 0, .int 0, .int 0, .int 0, .null, .null, .int 0, .null, .null, .null, .int 0, .int 0, .int 0, .int 0, .null, .null, .null, .null, .null, .null]))], [(q1, .inl (G.2.1 0, 24, .inl (fun _ => 0)))], [(q2, .inl (G.2.1 0, 12, .inl (fun _ => 0)))], [(q3, .inl (G.2.1 0, 16, .inl (fun _ => 0)))]]) H := hP
  have hD : va_D A (List.flatten [[(q, .inr (11, [.ref q1, .ref q2, .ref q3, .null, .int 0, .int 0, .int 0, .null, .null, .null, .null, .int 0, .int 0, .int 0, .int 0, .null, .int 0, .int 0, .int 0, .int 0, .int 0, .null, .null, .int 0, .null, .null, .null, .int 0, .int 0, .int 0, .int 0, .null, .null, .null, .null, .null, .null]))], [(q1, .inl (G.2.1 0, 24, .inl (fun _ => 0)))], [(q2, .inl (G.2.1 0, 12, .inl (fun _ => 0)))], [(q3, .inl (G.2.1 0, 16, .inl (fun _ => 0)))]]) := hD
  refine lv_aload_n hx hb dX11_init_28 rfl (lv_at hl 0 rfl) ?_
  refine lv_bipush (v := 6) hx hb dX11_init_29 lb_6 ?_
  refine va_newa (atype := .int) (ty := .int) (a0 := (6, .inl (fun _ => 0))) hx hb (hts _ tw_1_87) rfl hG.1 hP hD hS hA (fun _ => rfl) (by decide) (by decide) (by decide) (Nat.le_of_ble_eq_true rfl) (Nat.le_of_ble_eq_true rfl) dX11_init_31 (fun q4 cA H hK1 hP hD hS => ?_)
  have eA := ca_eq 0 rfl hK1 (fun _ h => h)
  subst eA
  have hP : va_P G.1 vwCl (List.flatten [[(q, .inr (11, [.ref q1, .ref q2, .ref q3, .null, .int 0, .int 0, .int 0, .null, .null, .null, .null, .int 0, .int 0, .int 0, .int 0, .null, .int 0, .int 0, .int 0, .int 0, .int 0, .null, .null, .int 0, .null, .null, .null, .int 0, .int 0, .int 0, .int 0, .null, .null, .null, .null, .null, .null]))], [(q1, .inl (G.2.1 0, 24, .inl (fun _ => 0)))], [(q2, .inl (G.2.1 0, 12, .inl (fun _ => 0)))], [(q3, .inl (G.2.1 0, 16, .inl (fun _ => 0)))], [(q4, .inl (G.2.1 0, 6, .inl (fun _ => 0)))]]) H := fl_snoc hP
  have hD : va_D A (List.flatten [[(q, .inr (11, [.ref q1, .ref q2, .ref q3, .null, .int 0, .int 0, .int 0, .null, .null, .null, .null, .int 0, .int 0, .int 0, .int 0, .null, .int 0, .int 0, .int 0, .int 0, .int 0, .null, .null, .int 0, .null, .null, .null, .int 0, .int 0, .int 0, .int 0, .null, .null, .null, .null, .null, .null]))], [(q1, .inl (G.2.1 0, 24, .inl (fun _ => 0)))], [(q2, .inl (G.2.1 0, 12, .inl (fun _ => 0)))], [(q3, .inl (G.2.1 0, 16, .inl (fun _ => 0)))], [(q4, .inl (G.2.1 0, 6, .inl (fun _ => 0)))]]) := fl_snocD hD
  refine va_putF (D := G.1) (cl := vwCl) (tys := tysG G) (ci := 11) (v := .ref q4) (ty := .array .int) (C := RX11) (T := TX11) (N := 37) hx hb hts iX11 tyX11 tyX11_ok nmX11 hown hG.1 hP hD hS 0 rfl rfl 3 (Nat.le_of_ble_eq_true rfl) (hts _ tw_4_101) (fun _ h9 => h9) rfl hin rfl (by decide +kernel) rfl rfl (Nat.le_of_ble_eq_true rfl) dX11_init_33 (fun H locs hP hD hS => ?_)
  have hP : va_P G.1 vwCl (List.flatten [[(q, .inr (11, [.ref q1, .ref q2, .ref q3, .ref q4, .int 0, .int 0, .int 0, .null, .null, .null, .null, .int 0, .int 0, .int 0, .int 0, .null, .int 0, .int 0, .int 0, .int 0, .int 0, .null, .null, .int 0, .null, .null, .null, .int 0, .int 0, .int 0, .int 0, .null, .null, .null, .null, .null, .null]))], [(q1, .inl (G.2.1 0, 24, .inl (fun _ => 0)))], [(q2, .inl (G.2.1 0, 12, .inl (fun _ => 0)))], [(q3, .inl (G.2.1 0, 16, .inl (fun _ => 0)))], [(q4, .inl (G.2.1 0, 6, .inl (fun _ => 0)))]]) H := hP
  have hD : va_D A (List.flatten [[(q, .inr (11, [.ref q1, .ref q2, .ref q3, .ref q4, .int 0, .int 0, .int 0, .null, .null, .null, .null, .int 0, .int 0, .int 0, .int 0, .null, .int 0, .int 0, .int 0, .int 0, .int 0, .null, .null, .int 0, .null, .null, .null, .int 0, .int 0, .int 0, .int 0, .null, .null, .null, .null, .null, .null]))], [(q1, .inl (G.2.1 0, 24, .inl (fun _ => 0)))], [(q2, .inl (G.2.1 0, 12, .inl (fun _ => 0)))], [(q3, .inl (G.2.1 0, 16, .inl (fun _ => 0)))], [(q4, .inl (G.2.1 0, 6, .inl (fun _ => 0)))]]) := hD
  refine lv_aload_n hx hb dX11_init_36 rfl (lv_at hl 0 rfl) ?_
  refine lv_bipush (v := 24) hx hb dX11_init_37 lb_24 ?_
  refine va_newa (atype := .int) (ty := .int) (a0 := (24, .inl (fun _ => 0))) hx hb (hts _ tw_1_87) rfl hG.1 hP hD hS hA (fun _ => rfl) (by decide) (by decide) (by decide) (Nat.le_of_ble_eq_true rfl) (Nat.le_of_ble_eq_true rfl) dX11_init_39 (fun q5 cA H hK1 hP hD hS => ?_)
  have eA := ca_eq 0 rfl hK1 (fun _ h => h)
  subst eA
  have hP : va_P G.1 vwCl (List.flatten [[(q, .inr (11, [.ref q1, .ref q2, .ref q3, .ref q4, .int 0, .int 0, .int 0, .null, .null, .null, .null, .int 0, .int 0, .int 0, .int 0, .null, .int 0, .int 0, .int 0, .int 0, .int 0, .null, .null, .int 0, .null, .null, .null, .int 0, .int 0, .int 0, .int 0, .null, .null, .null, .null, .null, .null]))], [(q1, .inl (G.2.1 0, 24, .inl (fun _ => 0)))], [(q2, .inl (G.2.1 0, 12, .inl (fun _ => 0)))], [(q3, .inl (G.2.1 0, 16, .inl (fun _ => 0)))], [(q4, .inl (G.2.1 0, 6, .inl (fun _ => 0)))], [(q5, .inl (G.2.1 0, 24, .inl (fun _ => 0)))]]) H := fl_snoc hP
  have hD : va_D A (List.flatten [[(q, .inr (11, [.ref q1, .ref q2, .ref q3, .ref q4, .int 0, .int 0, .int 0, .null, .null, .null, .null, .int 0, .int 0, .int 0, .int 0, .null, .int 0, .int 0, .int 0, .int 0, .int 0, .null, .null, .int 0, .null, .null, .null, .int 0, .int 0, .int 0, .int 0, .null, .null, .null, .null, .null, .null]))], [(q1, .inl (G.2.1 0, 24, .inl (fun _ => 0)))], [(q2, .inl (G.2.1 0, 12, .inl (fun _ => 0)))], [(q3, .inl (G.2.1 0, 16, .inl (fun _ => 0)))], [(q4, .inl (G.2.1 0, 6, .inl (fun _ => 0)))], [(q5, .inl (G.2.1 0, 24, .inl (fun _ => 0)))]]) := fl_snocD hD
  refine va_putF (D := G.1) (cl := vwCl) (tys := tysG G) (ci := 11) (v := .ref q5) (ty := .array .int) (C := RX11) (T := TX11) (N := 37) hx hb hts iX11 tyX11 tyX11_ok nmX11 hown hG.1 hP hD hS 0 rfl rfl 7 (Nat.le_of_ble_eq_true rfl) (hts _ tw_4_105) (fun _ h9 => h9) rfl hin rfl (by decide +kernel) rfl rfl (Nat.le_of_ble_eq_true rfl) dX11_init_41 (fun H locs hP hD hS => ?_)
  have hP : va_P G.1 vwCl (List.flatten [[(q, .inr (11, [.ref q1, .ref q2, .ref q3, .ref q4, .int 0, .int 0, .int 0, .ref q5, .null, .null, .null, .int 0, .int 0, .int 0, .int 0, .null, .int 0, .int 0, .int 0, .int 0, .int 0, .null, .null, .int 0, .null, .null, .null, .int 0, .int 0, .int 0, .int 0, .null, .null, .null, .null, .null, .null]))], [(q1, .inl (G.2.1 0, 24, .inl (fun _ => 0)))], [(q2, .inl (G.2.1 0, 12, .inl (fun _ => 0)))], [(q3, .inl (G.2.1 0, 16, .inl (fun _ => 0)))], [(q4, .inl (G.2.1 0, 6, .inl (fun _ => 0)))], [(q5, .inl (G.2.1 0, 24, .inl (fun _ => 0)))]]) H := hP
  have hD : va_D A (List.flatten [[(q, .inr (11, [.ref q1, .ref q2, .ref q3, .ref q4, .int 0, .int 0, .int 0, .ref q5, .null, .null, .null, .int 0, .int 0, .int 0, .int 0, .null, .int 0, .int 0, .int 0, .int 0, .int 0, .null, .null, .int 0, .null, .null, .null, .int 0, .int 0, .int 0, .int 0, .null, .null, .null, .null, .null, .null]))], [(q1, .inl (G.2.1 0, 24, .inl (fun _ => 0)))], [(q2, .inl (G.2.1 0, 12, .inl (fun _ => 0)))], [(q3, .inl (G.2.1 0, 16, .inl (fun _ => 0)))], [(q4, .inl (G.2.1 0, 6, .inl (fun _ => 0)))], [(q5, .inl (G.2.1 0, 24, .inl (fun _ => 0)))]]) := hD
  refine lv_aload_n hx hb dX11_init_44 rfl (lv_at hl 0 rfl) ?_
  refine lv_bipush (v := 12) hx hb dX11_init_45 lb_12 ?_
  refine va_newa (atype := .int) (ty := .int) (a0 := (12, .inl (fun _ => 0))) hx hb (hts _ tw_1_87) rfl hG.1 hP hD hS hA (fun _ => rfl) (by decide) (by decide) (by decide) (Nat.le_of_ble_eq_true rfl) (Nat.le_of_ble_eq_true rfl) dX11_init_47 (fun q6 cA H hK1 hP hD hS => ?_)
  have eA := ca_eq 0 rfl hK1 (fun _ h => h)
  subst eA
  have hP : va_P G.1 vwCl (List.flatten [[(q, .inr (11, [.ref q1, .ref q2, .ref q3, .ref q4, .int 0, .int 0, .int 0, .ref q5, .null, .null, .null, .int 0, .int 0, .int 0, .int 0, .null, .int 0, .int 0, .int 0, .int 0, .int 0, .null, .null, .int 0, .null, .null, .null, .int 0, .int 0, .int 0, .int 0, .null, .null, .null, .null, .null, .null]))], [(q1, .inl (G.2.1 0, 24, .inl (fun _ => 0)))], [(q2, .inl (G.2.1 0, 12, .inl (fun _ => 0)))], [(q3, .inl (G.2.1 0, 16, .inl (fun _ => 0)))], [(q4, .inl (G.2.1 0, 6, .inl (fun _ => 0)))], [(q5, .inl (G.2.1 0, 24, .inl (fun _ => 0)))], [(q6, .inl (G.2.1 0, 12, .inl (fun _ => 0)))]]) H := fl_snoc hP
  have hD : va_D A (List.flatten [[(q, .inr (11, [.ref q1, .ref q2, .ref q3, .ref q4, .int 0, .int 0, .int 0, .ref q5, .null, .null, .null, .int 0, .int 0, .int 0, .int 0, .null, .int 0, .int 0, .int 0, .int 0, .int 0, .null, .null, .int 0, .null, .null, .null, .int 0, .int 0, .int 0, .int 0, .null, .null, .null, .null, .null, .null]))], [(q1, .inl (G.2.1 0, 24, .inl (fun _ => 0)))], [(q2, .inl (G.2.1 0, 12, .inl (fun _ => 0)))], [(q3, .inl (G.2.1 0, 16, .inl (fun _ => 0)))], [(q4, .inl (G.2.1 0, 6, .inl (fun _ => 0)))], [(q5, .inl (G.2.1 0, 24, .inl (fun _ => 0)))], [(q6, .inl (G.2.1 0, 12, .inl (fun _ => 0)))]]) := fl_snocD hD
  refine va_putF (D := G.1) (cl := vwCl) (tys := tysG G) (ci := 11) (v := .ref q6) (ty := .array .int) (C := RX11) (T := TX11) (N := 37) hx hb hts iX11 tyX11 tyX11_ok nmX11 hown hG.1 hP hD hS 0 rfl rfl 8 (Nat.le_of_ble_eq_true rfl) (hts _ tw_4_106) (fun _ h9 => h9) rfl hin rfl (by decide +kernel) rfl rfl (Nat.le_of_ble_eq_true rfl) dX11_init_49 (fun H locs hP hD hS => ?_)
  have hP : va_P G.1 vwCl (List.flatten [[(q, .inr (11, [.ref q1, .ref q2, .ref q3, .ref q4, .int 0, .int 0, .int 0, .ref q5, .ref q6, .null, .null, .int 0, .int 0, .int 0, .int 0, .null, .int 0, .int 0, .int 0, .int 0, .int 0, .null, .null, .int 0, .null, .null, .null, .int 0, .int 0, .int 0, .int 0, .null, .null, .null, .null, .null, .null]))], [(q1, .inl (G.2.1 0, 24, .inl (fun _ => 0)))], [(q2, .inl (G.2.1 0, 12, .inl (fun _ => 0)))], [(q3, .inl (G.2.1 0, 16, .inl (fun _ => 0)))], [(q4, .inl (G.2.1 0, 6, .inl (fun _ => 0)))], [(q5, .inl (G.2.1 0, 24, .inl (fun _ => 0)))], [(q6, .inl (G.2.1 0, 12, .inl (fun _ => 0)))]]) H := hP
  have hD : va_D A (List.flatten [[(q, .inr (11, [.ref q1, .ref q2, .ref q3, .ref q4, .int 0, .int 0, .int 0, .ref q5, .ref q6, .null, .null, .int 0, .int 0, .int 0, .int 0, .null, .int 0, .int 0, .int 0, .int 0, .int 0, .null, .null, .int 0, .null, .null, .null, .int 0, .int 0, .int 0, .int 0, .null, .null, .null, .null, .null, .null]))], [(q1, .inl (G.2.1 0, 24, .inl (fun _ => 0)))], [(q2, .inl (G.2.1 0, 12, .inl (fun _ => 0)))], [(q3, .inl (G.2.1 0, 16, .inl (fun _ => 0)))], [(q4, .inl (G.2.1 0, 6, .inl (fun _ => 0)))], [(q5, .inl (G.2.1 0, 24, .inl (fun _ => 0)))], [(q6, .inl (G.2.1 0, 12, .inl (fun _ => 0)))]]) := hD
  refine lv_aload_n hx hb dX11_init_52 rfl (lv_at hl 0 rfl) ?_
  refine lv_bipush (v := 16) hx hb dX11_init_53 lb_16 ?_
  refine va_newa (atype := .int) (ty := .int) (a0 := (16, .inl (fun _ => 0))) hx hb (hts _ tw_1_87) rfl hG.1 hP hD hS hA (fun _ => rfl) (by decide) (by decide) (by decide) (Nat.le_of_ble_eq_true rfl) (Nat.le_of_ble_eq_true rfl) dX11_init_55 (fun q7 cA H hK1 hP hD hS => ?_)
  have eA := ca_eq 0 rfl hK1 (fun _ h => h)
  subst eA
  have hP : va_P G.1 vwCl (List.flatten [[(q, .inr (11, [.ref q1, .ref q2, .ref q3, .ref q4, .int 0, .int 0, .int 0, .ref q5, .ref q6, .null, .null, .int 0, .int 0, .int 0, .int 0, .null, .int 0, .int 0, .int 0, .int 0, .int 0, .null, .null, .int 0, .null, .null, .null, .int 0, .int 0, .int 0, .int 0, .null, .null, .null, .null, .null, .null]))], [(q1, .inl (G.2.1 0, 24, .inl (fun _ => 0)))], [(q2, .inl (G.2.1 0, 12, .inl (fun _ => 0)))], [(q3, .inl (G.2.1 0, 16, .inl (fun _ => 0)))], [(q4, .inl (G.2.1 0, 6, .inl (fun _ => 0)))], [(q5, .inl (G.2.1 0, 24, .inl (fun _ => 0)))], [(q6, .inl (G.2.1 0, 12, .inl (fun _ => 0)))], [(q7, .inl (G.2.1 0, 16, .inl (fun _ => 0)))]]) H := fl_snoc hP
  have hD : va_D A (List.flatten [[(q, .inr (11, [.ref q1, .ref q2, .ref q3, .ref q4, .int 0, .int 0, .int 0, .ref q5, .ref q6, .null, .null, .int 0, .int 0, .int 0, .int 0, .null, .int 0, .int 0, .int 0, .int 0, .int 0, .null, .null, .int 0, .null, .null, .null, .int 0, .int 0, .int 0, .int 0, .null, .null, .null, .null, .null, .null]))], [(q1, .inl (G.2.1 0, 24, .inl (fun _ => 0)))], [(q2, .inl (G.2.1 0, 12, .inl (fun _ => 0)))], [(q3, .inl (G.2.1 0, 16, .inl (fun _ => 0)))], [(q4, .inl (G.2.1 0, 6, .inl (fun _ => 0)))], [(q5, .inl (G.2.1 0, 24, .inl (fun _ => 0)))], [(q6, .inl (G.2.1 0, 12, .inl (fun _ => 0)))], [(q7, .inl (G.2.1 0, 16, .inl (fun _ => 0)))]]) := fl_snocD hD
  refine va_putF (D := G.1) (cl := vwCl) (tys := tysG G) (ci := 11) (v := .ref q7) (ty := .array .int) (C := RX11) (T := TX11) (N := 37) hx hb hts iX11 tyX11 tyX11_ok nmX11 hown hG.1 hP hD hS 0 rfl rfl 9 (Nat.le_of_ble_eq_true rfl) (hts _ tw_4_107) (fun _ h9 => h9) rfl hin rfl (by decide +kernel) rfl rfl (Nat.le_of_ble_eq_true rfl) dX11_init_57 (fun H locs hP hD hS => ?_)
  have hP : va_P G.1 vwCl (List.flatten [[(q, .inr (11, [.ref q1, .ref q2, .ref q3, .ref q4, .int 0, .int 0, .int 0, .ref q5, .ref q6, .ref q7, .null, .int 0, .int 0, .int 0, .int 0, .null, .int 0, .int 0, .int 0, .int 0, .int 0, .null, .null, .int 0, .null, .null, .null, .int 0, .int 0, .int 0, .int 0, .null, .null, .null, .null, .null, .null]))], [(q1, .inl (G.2.1 0, 24, .inl (fun _ => 0)))], [(q2, .inl (G.2.1 0, 12, .inl (fun _ => 0)))], [(q3, .inl (G.2.1 0, 16, .inl (fun _ => 0)))], [(q4, .inl (G.2.1 0, 6, .inl (fun _ => 0)))], [(q5, .inl (G.2.1 0, 24, .inl (fun _ => 0)))], [(q6, .inl (G.2.1 0, 12, .inl (fun _ => 0)))], [(q7, .inl (G.2.1 0, 16, .inl (fun _ => 0)))]]) H := hP
  have hD : va_D A (List.flatten [[(q, .inr (11, [.ref q1, .ref q2, .ref q3, .ref q4, .int 0, .int 0, .int 0, .ref q5, .ref q6, .ref q7, .null, .int 0, .int 0, .int 0, .int 0, .null, .int 0, .int 0, .int 0, .int 0, .int 0, .null, .null, .int 0, .null, .null, .null, .int 0, .int 0, .int 0, .int 0, .null, .null, .null, .null, .null, .null]))], [(q1, .inl (G.2.1 0, 24, .inl (fun _ => 0)))], [(q2, .inl (G.2.1 0, 12, .inl (fun _ => 0)))], [(q3, .inl (G.2.1 0, 16, .inl (fun _ => 0)))], [(q4, .inl (G.2.1 0, 6, .inl (fun _ => 0)))], [(q5, .inl (G.2.1 0, 24, .inl (fun _ => 0)))], [(q6, .inl (G.2.1 0, 12, .inl (fun _ => 0)))], [(q7, .inl (G.2.1 0, 16, .inl (fun _ => 0)))]]) := hD
  refine lv_aload_n hx hb dX11_init_60 rfl (lv_at hl 0 rfl) ?_
  refine lv_bipush (v := 6) hx hb dX11_init_61 lb_6 ?_
  refine va_newa (atype := .int) (ty := .int) (a0 := (6, .inl (fun _ => 0))) hx hb (hts _ tw_1_87) rfl hG.1 hP hD hS hA (fun _ => rfl) (by decide) (by decide) (by decide) (Nat.le_of_ble_eq_true rfl) (Nat.le_of_ble_eq_true rfl) dX11_init_63 (fun q8 cA H hK1 hP hD hS => ?_)
  have eA := ca_eq 0 rfl hK1 (fun _ h => h)
  subst eA
  have hP : va_P G.1 vwCl (List.flatten [[(q, .inr (11, [.ref q1, .ref q2, .ref q3, .ref q4, .int 0, .int 0, .int 0, .ref q5, .ref q6, .ref q7, .null, .int 0, .int 0, .int 0, .int 0, .null, .int 0, .int 0, .int 0, .int 0, .int 0, .null, .null, .int 0, .null, .null, .null, .int 0, .int 0, .int 0, .int 0, .null, .null, .null, .null, .null, .null]))], [(q1, .inl (G.2.1 0, 24, .inl (fun _ => 0)))], [(q2, .inl (G.2.1 0, 12, .inl (fun _ => 0)))], [(q3, .inl (G.2.1 0, 16, .inl (fun _ => 0)))], [(q4, .inl (G.2.1 0, 6, .inl (fun _ => 0)))], [(q5, .inl (G.2.1 0, 24, .inl (fun _ => 0)))], [(q6, .inl (G.2.1 0, 12, .inl (fun _ => 0)))], [(q7, .inl (G.2.1 0, 16, .inl (fun _ => 0)))], [(q8, .inl (G.2.1 0, 6, .inl (fun _ => 0)))]]) H := fl_snoc hP
  have hD : va_D A (List.flatten [[(q, .inr (11, [.ref q1, .ref q2, .ref q3, .ref q4, .int 0, .int 0, .int 0, .ref q5, .ref q6, .ref q7, .null, .int 0, .int 0, .int 0, .int 0, .null, .int 0, .int 0, .int 0, .int 0, .int 0, .null, .null, .int 0, .null, .null, .null, .int 0, .int 0, .int 0, .int 0, .null, .null, .null, .null, .null, .null]))], [(q1, .inl (G.2.1 0, 24, .inl (fun _ => 0)))], [(q2, .inl (G.2.1 0, 12, .inl (fun _ => 0)))], [(q3, .inl (G.2.1 0, 16, .inl (fun _ => 0)))], [(q4, .inl (G.2.1 0, 6, .inl (fun _ => 0)))], [(q5, .inl (G.2.1 0, 24, .inl (fun _ => 0)))], [(q6, .inl (G.2.1 0, 12, .inl (fun _ => 0)))], [(q7, .inl (G.2.1 0, 16, .inl (fun _ => 0)))], [(q8, .inl (G.2.1 0, 6, .inl (fun _ => 0)))]]) := fl_snocD hD
  refine va_putF (D := G.1) (cl := vwCl) (tys := tysG G) (ci := 11) (v := .ref q8) (ty := .array .int) (C := RX11) (T := TX11) (N := 37) hx hb hts iX11 tyX11 tyX11_ok nmX11 hown hG.1 hP hD hS 0 rfl rfl 10 (Nat.le_of_ble_eq_true rfl) (hts _ tw_4_108) (fun _ h9 => h9) rfl hin rfl (by decide +kernel) rfl rfl (Nat.le_of_ble_eq_true rfl) dX11_init_65 (fun H locs hP hD hS => ?_)
  have hP : va_P G.1 vwCl (List.flatten [[(q, .inr (11, [.ref q1, .ref q2, .ref q3, .ref q4, .int 0, .int 0, .int 0, .ref q5, .ref q6, .ref q7, .ref q8, .int 0, .int 0, .int 0, .int 0, .null, .int 0, .int 0, .int 0, .int 0, .int 0, .null, .null, .int 0, .null, .null, .null, .int 0, .int 0, .int 0, .int 0, .null, .null, .null, .null, .null, .null]))], [(q1, .inl (G.2.1 0, 24, .inl (fun _ => 0)))], [(q2, .inl (G.2.1 0, 12, .inl (fun _ => 0)))], [(q3, .inl (G.2.1 0, 16, .inl (fun _ => 0)))], [(q4, .inl (G.2.1 0, 6, .inl (fun _ => 0)))], [(q5, .inl (G.2.1 0, 24, .inl (fun _ => 0)))], [(q6, .inl (G.2.1 0, 12, .inl (fun _ => 0)))], [(q7, .inl (G.2.1 0, 16, .inl (fun _ => 0)))], [(q8, .inl (G.2.1 0, 6, .inl (fun _ => 0)))]]) H := hP
  have hD : va_D A (List.flatten [[(q, .inr (11, [.ref q1, .ref q2, .ref q3, .ref q4, .int 0, .int 0, .int 0, .ref q5, .ref q6, .ref q7, .ref q8, .int 0, .int 0, .int 0, .int 0, .null, .int 0, .int 0, .int 0, .int 0, .int 0, .null, .null, .int 0, .null, .null, .null, .int 0, .int 0, .int 0, .int 0, .null, .null, .null, .null, .null, .null]))], [(q1, .inl (G.2.1 0, 24, .inl (fun _ => 0)))], [(q2, .inl (G.2.1 0, 12, .inl (fun _ => 0)))], [(q3, .inl (G.2.1 0, 16, .inl (fun _ => 0)))], [(q4, .inl (G.2.1 0, 6, .inl (fun _ => 0)))], [(q5, .inl (G.2.1 0, 24, .inl (fun _ => 0)))], [(q6, .inl (G.2.1 0, 12, .inl (fun _ => 0)))], [(q7, .inl (G.2.1 0, 16, .inl (fun _ => 0)))], [(q8, .inl (G.2.1 0, 6, .inl (fun _ => 0)))]]) := hD
  refine lv_aload_n hx hb dX11_init_68 rfl (lv_at hl 0 rfl) ?_
  refine lv_bipush (v := 92) hx hb dX11_init_69 lb_92 ?_
  refine va_newa (atype := .int) (ty := .int) (a0 := (92, .inl (fun _ => 0))) hx hb (hts _ tw_1_87) rfl hG.1 hP hD hS hA (fun _ => rfl) (by decide) (by decide) (by decide) (Nat.le_of_ble_eq_true rfl) (Nat.le_of_ble_eq_true rfl) dX11_init_71 (fun q9 cA H hK1 hP hD hS => ?_)
  have eA := ca_eq 0 rfl hK1 (fun _ h => h)
  subst eA
  have hP : va_P G.1 vwCl (List.flatten [[(q, .inr (11, [.ref q1, .ref q2, .ref q3, .ref q4, .int 0, .int 0, .int 0, .ref q5, .ref q6, .ref q7, .ref q8, .int 0, .int 0, .int 0, .int 0, .null, .int 0, .int 0, .int 0, .int 0, .int 0, .null, .null, .int 0, .null, .null, .null, .int 0, .int 0, .int 0, .int 0, .null, .null, .null, .null, .null, .null]))], [(q1, .inl (G.2.1 0, 24, .inl (fun _ => 0)))], [(q2, .inl (G.2.1 0, 12, .inl (fun _ => 0)))], [(q3, .inl (G.2.1 0, 16, .inl (fun _ => 0)))], [(q4, .inl (G.2.1 0, 6, .inl (fun _ => 0)))], [(q5, .inl (G.2.1 0, 24, .inl (fun _ => 0)))], [(q6, .inl (G.2.1 0, 12, .inl (fun _ => 0)))], [(q7, .inl (G.2.1 0, 16, .inl (fun _ => 0)))], [(q8, .inl (G.2.1 0, 6, .inl (fun _ => 0)))], [(q9, .inl (G.2.1 0, 92, .inl (fun _ => 0)))]]) H := fl_snoc hP
  have hD : va_D A (List.flatten [[(q, .inr (11, [.ref q1, .ref q2, .ref q3, .ref q4, .int 0, .int 0, .int 0, .ref q5, .ref q6, .ref q7, .ref q8, .int 0, .int 0, .int 0, .int 0, .null, .int 0, .int 0, .int 0, .int 0, .int 0, .null, .null, .int 0, .null, .null, .null, .int 0, .int 0, .int 0, .int 0, .null, .null, .null, .null, .null, .null]))], [(q1, .inl (G.2.1 0, 24, .inl (fun _ => 0)))], [(q2, .inl (G.2.1 0, 12, .inl (fun _ => 0)))], [(q3, .inl (G.2.1 0, 16, .inl (fun _ => 0)))], [(q4, .inl (G.2.1 0, 6, .inl (fun _ => 0)))], [(q5, .inl (G.2.1 0, 24, .inl (fun _ => 0)))], [(q6, .inl (G.2.1 0, 12, .inl (fun _ => 0)))], [(q7, .inl (G.2.1 0, 16, .inl (fun _ => 0)))], [(q8, .inl (G.2.1 0, 6, .inl (fun _ => 0)))], [(q9, .inl (G.2.1 0, 92, .inl (fun _ => 0)))]]) := fl_snocD hD
  refine va_putF (D := G.1) (cl := vwCl) (tys := tysG G) (ci := 11) (v := .ref q9) (ty := .array .int) (C := RX11) (T := TX11) (N := 37) hx hb hts iX11 tyX11 tyX11_ok nmX11 hown hG.1 hP hD hS 0 rfl rfl 15 (Nat.le_of_ble_eq_true rfl) (hts _ tw_4_113) (fun _ h9 => h9) rfl hin rfl (by decide +kernel) rfl rfl (Nat.le_of_ble_eq_true rfl) dX11_init_73 (fun H locs hP hD hS => ?_)
  have hP : va_P G.1 vwCl (List.flatten [[(q, .inr (11, [.ref q1, .ref q2, .ref q3, .ref q4, .int 0, .int 0, .int 0, .ref q5, .ref q6, .ref q7, .ref q8, .int 0, .int 0, .int 0, .int 0, .ref q9, .int 0, .int 0, .int 0, .int 0, .int 0, .null, .null, .int 0, .null, .null, .null, .int 0, .int 0, .int 0, .int 0, .null, .null, .null, .null, .null, .null]))], [(q1, .inl (G.2.1 0, 24, .inl (fun _ => 0)))], [(q2, .inl (G.2.1 0, 12, .inl (fun _ => 0)))], [(q3, .inl (G.2.1 0, 16, .inl (fun _ => 0)))], [(q4, .inl (G.2.1 0, 6, .inl (fun _ => 0)))], [(q5, .inl (G.2.1 0, 24, .inl (fun _ => 0)))], [(q6, .inl (G.2.1 0, 12, .inl (fun _ => 0)))], [(q7, .inl (G.2.1 0, 16, .inl (fun _ => 0)))], [(q8, .inl (G.2.1 0, 6, .inl (fun _ => 0)))], [(q9, .inl (G.2.1 0, 92, .inl (fun _ => 0)))]]) H := hP
  have hD : va_D A (List.flatten [[(q, .inr (11, [.ref q1, .ref q2, .ref q3, .ref q4, .int 0, .int 0, .int 0, .ref q5, .ref q6, .ref q7, .ref q8, .int 0, .int 0, .int 0, .int 0, .ref q9, .int 0, .int 0, .int 0, .int 0, .int 0, .null, .null, .int 0, .null, .null, .null, .int 0, .int 0, .int 0, .int 0, .null, .null, .null, .null, .null, .null]))], [(q1, .inl (G.2.1 0, 24, .inl (fun _ => 0)))], [(q2, .inl (G.2.1 0, 12, .inl (fun _ => 0)))], [(q3, .inl (G.2.1 0, 16, .inl (fun _ => 0)))], [(q4, .inl (G.2.1 0, 6, .inl (fun _ => 0)))], [(q5, .inl (G.2.1 0, 24, .inl (fun _ => 0)))], [(q6, .inl (G.2.1 0, 12, .inl (fun _ => 0)))], [(q7, .inl (G.2.1 0, 16, .inl (fun _ => 0)))], [(q8, .inl (G.2.1 0, 6, .inl (fun _ => 0)))], [(q9, .inl (G.2.1 0, 92, .inl (fun _ => 0)))]]) := hD
  refine lv_aload_n hx hb dX11_init_76 rfl (lv_at hl 0 rfl) ?_
  refine lv_sipush (v := 400) hx hb dX11_init_77 lh_400 ?_
  refine va_newa (atype := .int) (ty := .int) (a0 := (400, .inl (fun _ => 0))) hx hb (hts _ tw_1_87) rfl hG.1 hP hD hS hA (fun _ => rfl) (by decide) (by decide) (by decide) (Nat.le_of_ble_eq_true rfl) (Nat.le_of_ble_eq_true rfl) dX11_init_80 (fun q10 cA H hK1 hP hD hS => ?_)
  have eA := ca_eq 0 rfl hK1 (fun _ h => h)
  subst eA
  have hP : va_P G.1 vwCl (List.flatten [[(q, .inr (11, [.ref q1, .ref q2, .ref q3, .ref q4, .int 0, .int 0, .int 0, .ref q5, .ref q6, .ref q7, .ref q8, .int 0, .int 0, .int 0, .int 0, .ref q9, .int 0, .int 0, .int 0, .int 0, .int 0, .null, .null, .int 0, .null, .null, .null, .int 0, .int 0, .int 0, .int 0, .null, .null, .null, .null, .null, .null]))], [(q1, .inl (G.2.1 0, 24, .inl (fun _ => 0)))], [(q2, .inl (G.2.1 0, 12, .inl (fun _ => 0)))], [(q3, .inl (G.2.1 0, 16, .inl (fun _ => 0)))], [(q4, .inl (G.2.1 0, 6, .inl (fun _ => 0)))], [(q5, .inl (G.2.1 0, 24, .inl (fun _ => 0)))], [(q6, .inl (G.2.1 0, 12, .inl (fun _ => 0)))], [(q7, .inl (G.2.1 0, 16, .inl (fun _ => 0)))], [(q8, .inl (G.2.1 0, 6, .inl (fun _ => 0)))], [(q9, .inl (G.2.1 0, 92, .inl (fun _ => 0)))], [(q10, .inl (G.2.1 0, 400, .inl (fun _ => 0)))]]) H := fl_snoc hP
  have hD : va_D A (List.flatten [[(q, .inr (11, [.ref q1, .ref q2, .ref q3, .ref q4, .int 0, .int 0, .int 0, .ref q5, .ref q6, .ref q7, .ref q8, .int 0, .int 0, .int 0, .int 0, .ref q9, .int 0, .int 0, .int 0, .int 0, .int 0, .null, .null, .int 0, .null, .null, .null, .int 0, .int 0, .int 0, .int 0, .null, .null, .null, .null, .null, .null]))], [(q1, .inl (G.2.1 0, 24, .inl (fun _ => 0)))], [(q2, .inl (G.2.1 0, 12, .inl (fun _ => 0)))], [(q3, .inl (G.2.1 0, 16, .inl (fun _ => 0)))], [(q4, .inl (G.2.1 0, 6, .inl (fun _ => 0)))], [(q5, .inl (G.2.1 0, 24, .inl (fun _ => 0)))], [(q6, .inl (G.2.1 0, 12, .inl (fun _ => 0)))], [(q7, .inl (G.2.1 0, 16, .inl (fun _ => 0)))], [(q8, .inl (G.2.1 0, 6, .inl (fun _ => 0)))], [(q9, .inl (G.2.1 0, 92, .inl (fun _ => 0)))], [(q10, .inl (G.2.1 0, 400, .inl (fun _ => 0)))]]) := fl_snocD hD
  refine va_putF (D := G.1) (cl := vwCl) (tys := tysG G) (ci := 11) (v := .ref q10) (ty := .array .int) (C := RX11) (T := TX11) (N := 37) hx hb hts iX11 tyX11 tyX11_ok nmX11 hown hG.1 hP hD hS 0 rfl rfl 21 (Nat.le_of_ble_eq_true rfl) (hts _ tw_4_119) (fun _ h9 => h9) rfl hin rfl (by decide +kernel) rfl rfl (Nat.le_of_ble_eq_true rfl) dX11_init_82 (fun H locs hP hD hS => ?_)
  have hP : va_P G.1 vwCl (List.flatten [[(q, .inr (11, [.ref q1, .ref q2, .ref q3, .ref q4, .int 0, .int 0, .int 0, .ref q5, .ref q6, .ref q7, .ref q8, .int 0, .int 0, .int 0, .int 0, .ref q9, .int 0, .int 0, .int 0, .int 0, .int 0, .ref q10, .null, .int 0, .null, .null, .null, .int 0, .int 0, .int 0, .int 0, .null, .null, .null, .null, .null, .null]))], [(q1, .inl (G.2.1 0, 24, .inl (fun _ => 0)))], [(q2, .inl (G.2.1 0, 12, .inl (fun _ => 0)))], [(q3, .inl (G.2.1 0, 16, .inl (fun _ => 0)))], [(q4, .inl (G.2.1 0, 6, .inl (fun _ => 0)))], [(q5, .inl (G.2.1 0, 24, .inl (fun _ => 0)))], [(q6, .inl (G.2.1 0, 12, .inl (fun _ => 0)))], [(q7, .inl (G.2.1 0, 16, .inl (fun _ => 0)))], [(q8, .inl (G.2.1 0, 6, .inl (fun _ => 0)))], [(q9, .inl (G.2.1 0, 92, .inl (fun _ => 0)))], [(q10, .inl (G.2.1 0, 400, .inl (fun _ => 0)))]]) H := hP
  have hD : va_D A (List.flatten [[(q, .inr (11, [.ref q1, .ref q2, .ref q3, .ref q4, .int 0, .int 0, .int 0, .ref q5, .ref q6, .ref q7, .ref q8, .int 0, .int 0, .int 0, .int 0, .ref q9, .int 0, .int 0, .int 0, .int 0, .int 0, .ref q10, .null, .int 0, .null, .null, .null, .int 0, .int 0, .int 0, .int 0, .null, .null, .null, .null, .null, .null]))], [(q1, .inl (G.2.1 0, 24, .inl (fun _ => 0)))], [(q2, .inl (G.2.1 0, 12, .inl (fun _ => 0)))], [(q3, .inl (G.2.1 0, 16, .inl (fun _ => 0)))], [(q4, .inl (G.2.1 0, 6, .inl (fun _ => 0)))], [(q5, .inl (G.2.1 0, 24, .inl (fun _ => 0)))], [(q6, .inl (G.2.1 0, 12, .inl (fun _ => 0)))], [(q7, .inl (G.2.1 0, 16, .inl (fun _ => 0)))], [(q8, .inl (G.2.1 0, 6, .inl (fun _ => 0)))], [(q9, .inl (G.2.1 0, 92, .inl (fun _ => 0)))], [(q10, .inl (G.2.1 0, 400, .inl (fun _ => 0)))]]) := hD
  refine lv_aload_n hx hb dX11_init_85 rfl (lv_at hl 0 rfl) ?_
  refine lv_bipush (v := 90) hx hb dX11_init_86 lb_90 ?_
  refine va_newa (atype := .int) (ty := .int) (a0 := (90, .inl (fun _ => 0))) hx hb (hts _ tw_1_87) rfl hG.1 hP hD hS hA (fun _ => rfl) (by decide) (by decide) (by decide) (Nat.le_of_ble_eq_true rfl) (Nat.le_of_ble_eq_true rfl) dX11_init_88 (fun q11 cA H hK1 hP hD hS => ?_)
  have eA := ca_eq 0 rfl hK1 (fun _ h => h)
  subst eA
  have hP : va_P G.1 vwCl (List.flatten [[(q, .inr (11, [.ref q1, .ref q2, .ref q3, .ref q4, .int 0, .int 0, .int 0, .ref q5, .ref q6, .ref q7, .ref q8, .int 0, .int 0, .int 0, .int 0, .ref q9, .int 0, .int 0, .int 0, .int 0, .int 0, .ref q10, .null, .int 0, .null, .null, .null, .int 0, .int 0, .int 0, .int 0, .null, .null, .null, .null, .null, .null]))], [(q1, .inl (G.2.1 0, 24, .inl (fun _ => 0)))], [(q2, .inl (G.2.1 0, 12, .inl (fun _ => 0)))], [(q3, .inl (G.2.1 0, 16, .inl (fun _ => 0)))], [(q4, .inl (G.2.1 0, 6, .inl (fun _ => 0)))], [(q5, .inl (G.2.1 0, 24, .inl (fun _ => 0)))], [(q6, .inl (G.2.1 0, 12, .inl (fun _ => 0)))], [(q7, .inl (G.2.1 0, 16, .inl (fun _ => 0)))], [(q8, .inl (G.2.1 0, 6, .inl (fun _ => 0)))], [(q9, .inl (G.2.1 0, 92, .inl (fun _ => 0)))], [(q10, .inl (G.2.1 0, 400, .inl (fun _ => 0)))], [(q11, .inl (G.2.1 0, 90, .inl (fun _ => 0)))]]) H := fl_snoc hP
  have hD : va_D A (List.flatten [[(q, .inr (11, [.ref q1, .ref q2, .ref q3, .ref q4, .int 0, .int 0, .int 0, .ref q5, .ref q6, .ref q7, .ref q8, .int 0, .int 0, .int 0, .int 0, .ref q9, .int 0, .int 0, .int 0, .int 0, .int 0, .ref q10, .null, .int 0, .null, .null, .null, .int 0, .int 0, .int 0, .int 0, .null, .null, .null, .null, .null, .null]))], [(q1, .inl (G.2.1 0, 24, .inl (fun _ => 0)))], [(q2, .inl (G.2.1 0, 12, .inl (fun _ => 0)))], [(q3, .inl (G.2.1 0, 16, .inl (fun _ => 0)))], [(q4, .inl (G.2.1 0, 6, .inl (fun _ => 0)))], [(q5, .inl (G.2.1 0, 24, .inl (fun _ => 0)))], [(q6, .inl (G.2.1 0, 12, .inl (fun _ => 0)))], [(q7, .inl (G.2.1 0, 16, .inl (fun _ => 0)))], [(q8, .inl (G.2.1 0, 6, .inl (fun _ => 0)))], [(q9, .inl (G.2.1 0, 92, .inl (fun _ => 0)))], [(q10, .inl (G.2.1 0, 400, .inl (fun _ => 0)))], [(q11, .inl (G.2.1 0, 90, .inl (fun _ => 0)))]]) := fl_snocD hD
  refine va_putF (D := G.1) (cl := vwCl) (tys := tysG G) (ci := 11) (v := .ref q11) (ty := .array .int) (C := RX11) (T := TX11) (N := 37) hx hb hts iX11 tyX11 tyX11_ok nmX11 hown hG.1 hP hD hS 0 rfl rfl 22 (Nat.le_of_ble_eq_true rfl) (hts _ tw_4_120) (fun _ h9 => h9) rfl hin rfl (by decide +kernel) rfl rfl (Nat.le_of_ble_eq_true rfl) dX11_init_90 (fun H locs hP hD hS => ?_)
  have hP : va_P G.1 vwCl (List.flatten [[(q, .inr (11, [.ref q1, .ref q2, .ref q3, .ref q4, .int 0, .int 0, .int 0, .ref q5, .ref q6, .ref q7, .ref q8, .int 0, .int 0, .int 0, .int 0, .ref q9, .int 0, .int 0, .int 0, .int 0, .int 0, .ref q10, .ref q11, .int 0, .null, .null, .null, .int 0, .int 0, .int 0, .int 0, .null, .null, .null, .null, .null, .null]))], [(q1, .inl (G.2.1 0, 24, .inl (fun _ => 0)))], [(q2, .inl (G.2.1 0, 12, .inl (fun _ => 0)))], [(q3, .inl (G.2.1 0, 16, .inl (fun _ => 0)))], [(q4, .inl (G.2.1 0, 6, .inl (fun _ => 0)))], [(q5, .inl (G.2.1 0, 24, .inl (fun _ => 0)))], [(q6, .inl (G.2.1 0, 12, .inl (fun _ => 0)))], [(q7, .inl (G.2.1 0, 16, .inl (fun _ => 0)))], [(q8, .inl (G.2.1 0, 6, .inl (fun _ => 0)))], [(q9, .inl (G.2.1 0, 92, .inl (fun _ => 0)))], [(q10, .inl (G.2.1 0, 400, .inl (fun _ => 0)))], [(q11, .inl (G.2.1 0, 90, .inl (fun _ => 0)))]]) H := hP
  have hD : va_D A (List.flatten [[(q, .inr (11, [.ref q1, .ref q2, .ref q3, .ref q4, .int 0, .int 0, .int 0, .ref q5, .ref q6, .ref q7, .ref q8, .int 0, .int 0, .int 0, .int 0, .ref q9, .int 0, .int 0, .int 0, .int 0, .int 0, .ref q10, .ref q11, .int 0, .null, .null, .null, .int 0, .int 0, .int 0, .int 0, .null, .null, .null, .null, .null, .null]))], [(q1, .inl (G.2.1 0, 24, .inl (fun _ => 0)))], [(q2, .inl (G.2.1 0, 12, .inl (fun _ => 0)))], [(q3, .inl (G.2.1 0, 16, .inl (fun _ => 0)))], [(q4, .inl (G.2.1 0, 6, .inl (fun _ => 0)))], [(q5, .inl (G.2.1 0, 24, .inl (fun _ => 0)))], [(q6, .inl (G.2.1 0, 12, .inl (fun _ => 0)))], [(q7, .inl (G.2.1 0, 16, .inl (fun _ => 0)))], [(q8, .inl (G.2.1 0, 6, .inl (fun _ => 0)))], [(q9, .inl (G.2.1 0, 92, .inl (fun _ => 0)))], [(q10, .inl (G.2.1 0, 400, .inl (fun _ => 0)))], [(q11, .inl (G.2.1 0, 90, .inl (fun _ => 0)))]]) := hD
  refine lv_aload_n hx hb dX11_init_93 rfl (lv_at hl 0 rfl) ?_
  refine lv_bipush (v := 6) hx hb dX11_init_94 lb_6 ?_
  refine va_newa (atype := .int) (ty := .int) (a0 := (6, .inl (fun _ => 0))) hx hb (hts _ tw_1_87) rfl hG.1 hP hD hS hA (fun _ => rfl) (by decide) (by decide) (by decide) (Nat.le_of_ble_eq_true rfl) (Nat.le_of_ble_eq_true rfl) dX11_init_96 (fun q12 cA H hK1 hP hD hS => ?_)
  have eA := ca_eq 0 rfl hK1 (fun _ h => h)
  subst eA
  have hP : va_P G.1 vwCl (List.flatten [[(q, .inr (11, [.ref q1, .ref q2, .ref q3, .ref q4, .int 0, .int 0, .int 0, .ref q5, .ref q6, .ref q7, .ref q8, .int 0, .int 0, .int 0, .int 0, .ref q9, .int 0, .int 0, .int 0, .int 0, .int 0, .ref q10, .ref q11, .int 0, .null, .null, .null, .int 0, .int 0, .int 0, .int 0, .null, .null, .null, .null, .null, .null]))], [(q1, .inl (G.2.1 0, 24, .inl (fun _ => 0)))], [(q2, .inl (G.2.1 0, 12, .inl (fun _ => 0)))], [(q3, .inl (G.2.1 0, 16, .inl (fun _ => 0)))], [(q4, .inl (G.2.1 0, 6, .inl (fun _ => 0)))], [(q5, .inl (G.2.1 0, 24, .inl (fun _ => 0)))], [(q6, .inl (G.2.1 0, 12, .inl (fun _ => 0)))], [(q7, .inl (G.2.1 0, 16, .inl (fun _ => 0)))], [(q8, .inl (G.2.1 0, 6, .inl (fun _ => 0)))], [(q9, .inl (G.2.1 0, 92, .inl (fun _ => 0)))], [(q10, .inl (G.2.1 0, 400, .inl (fun _ => 0)))], [(q11, .inl (G.2.1 0, 90, .inl (fun _ => 0)))], [(q12, .inl (G.2.1 0, 6, .inl (fun _ => 0)))]]) H := fl_snoc hP
  have hD : va_D A (List.flatten [[(q, .inr (11, [.ref q1, .ref q2, .ref q3, .ref q4, .int 0, .int 0, .int 0, .ref q5, .ref q6, .ref q7, .ref q8, .int 0, .int 0, .int 0, .int 0, .ref q9, .int 0, .int 0, .int 0, .int 0, .int 0, .ref q10, .ref q11, .int 0, .null, .null, .null, .int 0, .int 0, .int 0, .int 0, .null, .null, .null, .null, .null, .null]))], [(q1, .inl (G.2.1 0, 24, .inl (fun _ => 0)))], [(q2, .inl (G.2.1 0, 12, .inl (fun _ => 0)))], [(q3, .inl (G.2.1 0, 16, .inl (fun _ => 0)))], [(q4, .inl (G.2.1 0, 6, .inl (fun _ => 0)))], [(q5, .inl (G.2.1 0, 24, .inl (fun _ => 0)))], [(q6, .inl (G.2.1 0, 12, .inl (fun _ => 0)))], [(q7, .inl (G.2.1 0, 16, .inl (fun _ => 0)))], [(q8, .inl (G.2.1 0, 6, .inl (fun _ => 0)))], [(q9, .inl (G.2.1 0, 92, .inl (fun _ => 0)))], [(q10, .inl (G.2.1 0, 400, .inl (fun _ => 0)))], [(q11, .inl (G.2.1 0, 90, .inl (fun _ => 0)))], [(q12, .inl (G.2.1 0, 6, .inl (fun _ => 0)))]]) := fl_snocD hD
  refine va_putF (D := G.1) (cl := vwCl) (tys := tysG G) (ci := 11) (v := .ref q12) (ty := .array .int) (C := RX11) (T := TX11) (N := 37) hx hb hts iX11 tyX11 tyX11_ok nmX11 hown hG.1 hP hD hS 0 rfl rfl 24 (Nat.le_of_ble_eq_true rfl) (hts _ tw_4_122) (fun _ h9 => h9) rfl hin rfl (by decide +kernel) rfl rfl (Nat.le_of_ble_eq_true rfl) dX11_init_98 (fun H locs hP hD hS => ?_)
  have hP : va_P G.1 vwCl (List.flatten [[(q, .inr (11, [.ref q1, .ref q2, .ref q3, .ref q4, .int 0, .int 0, .int 0, .ref q5, .ref q6, .ref q7, .ref q8, .int 0, .int 0, .int 0, .int 0, .ref q9, .int 0, .int 0, .int 0, .int 0, .int 0, .ref q10, .ref q11, .int 0, .ref q12, .null, .null, .int 0, .int 0, .int 0, .int 0, .null, .null, .null, .null, .null, .null]))], [(q1, .inl (G.2.1 0, 24, .inl (fun _ => 0)))], [(q2, .inl (G.2.1 0, 12, .inl (fun _ => 0)))], [(q3, .inl (G.2.1 0, 16, .inl (fun _ => 0)))], [(q4, .inl (G.2.1 0, 6, .inl (fun _ => 0)))], [(q5, .inl (G.2.1 0, 24, .inl (fun _ => 0)))], [(q6, .inl (G.2.1 0, 12, .inl (fun _ => 0)))], [(q7, .inl (G.2.1 0, 16, .inl (fun _ => 0)))], [(q8, .inl (G.2.1 0, 6, .inl (fun _ => 0)))], [(q9, .inl (G.2.1 0, 92, .inl (fun _ => 0)))], [(q10, .inl (G.2.1 0, 400, .inl (fun _ => 0)))], [(q11, .inl (G.2.1 0, 90, .inl (fun _ => 0)))], [(q12, .inl (G.2.1 0, 6, .inl (fun _ => 0)))]]) H := hP
  have hD : va_D A (List.flatten [[(q, .inr (11, [.ref q1, .ref q2, .ref q3, .ref q4, .int 0, .int 0, .int 0, .ref q5, .ref q6, .ref q7, .ref q8, .int 0, .int 0, .int 0, .int 0, .ref q9, .int 0, .int 0, .int 0, .int 0, .int 0, .ref q10, .ref q11, .int 0, .ref q12, .null, .null, .int 0, .int 0, .int 0, .int 0, .null, .null, .null, .null, .null, .null]))], [(q1, .inl (G.2.1 0, 24, .inl (fun _ => 0)))], [(q2, .inl (G.2.1 0, 12, .inl (fun _ => 0)))], [(q3, .inl (G.2.1 0, 16, .inl (fun _ => 0)))], [(q4, .inl (G.2.1 0, 6, .inl (fun _ => 0)))], [(q5, .inl (G.2.1 0, 24, .inl (fun _ => 0)))], [(q6, .inl (G.2.1 0, 12, .inl (fun _ => 0)))], [(q7, .inl (G.2.1 0, 16, .inl (fun _ => 0)))], [(q8, .inl (G.2.1 0, 6, .inl (fun _ => 0)))], [(q9, .inl (G.2.1 0, 92, .inl (fun _ => 0)))], [(q10, .inl (G.2.1 0, 400, .inl (fun _ => 0)))], [(q11, .inl (G.2.1 0, 90, .inl (fun _ => 0)))], [(q12, .inl (G.2.1 0, 6, .inl (fun _ => 0)))]]) := hD
  refine lv_aload_n hx hb dX11_init_101 rfl (lv_at hl 0 rfl) ?_
  refine lv_bipush (v := 6) hx hb dX11_init_102 lb_6 ?_
  refine va_newa (atype := .int) (ty := .int) (a0 := (6, .inl (fun _ => 0))) hx hb (hts _ tw_1_87) rfl hG.1 hP hD hS hA (fun _ => rfl) (by decide) (by decide) (by decide) (Nat.le_of_ble_eq_true rfl) (Nat.le_of_ble_eq_true rfl) dX11_init_104 (fun q13 cA H hK1 hP hD hS => ?_)
  have eA := ca_eq 0 rfl hK1 (fun _ h => h)
  subst eA
  have hP : va_P G.1 vwCl (List.flatten [[(q, .inr (11, [.ref q1, .ref q2, .ref q3, .ref q4, .int 0, .int 0, .int 0, .ref q5, .ref q6, .ref q7, .ref q8, .int 0, .int 0, .int 0, .int 0, .ref q9, .int 0, .int 0, .int 0, .int 0, .int 0, .ref q10, .ref q11, .int 0, .ref q12, .null, .null, .int 0, .int 0, .int 0, .int 0, .null, .null, .null, .null, .null, .null]))], [(q1, .inl (G.2.1 0, 24, .inl (fun _ => 0)))], [(q2, .inl (G.2.1 0, 12, .inl (fun _ => 0)))], [(q3, .inl (G.2.1 0, 16, .inl (fun _ => 0)))], [(q4, .inl (G.2.1 0, 6, .inl (fun _ => 0)))], [(q5, .inl (G.2.1 0, 24, .inl (fun _ => 0)))], [(q6, .inl (G.2.1 0, 12, .inl (fun _ => 0)))], [(q7, .inl (G.2.1 0, 16, .inl (fun _ => 0)))], [(q8, .inl (G.2.1 0, 6, .inl (fun _ => 0)))], [(q9, .inl (G.2.1 0, 92, .inl (fun _ => 0)))], [(q10, .inl (G.2.1 0, 400, .inl (fun _ => 0)))], [(q11, .inl (G.2.1 0, 90, .inl (fun _ => 0)))], [(q12, .inl (G.2.1 0, 6, .inl (fun _ => 0)))], [(q13, .inl (G.2.1 0, 6, .inl (fun _ => 0)))]]) H := fl_snoc hP
  have hD : va_D A (List.flatten [[(q, .inr (11, [.ref q1, .ref q2, .ref q3, .ref q4, .int 0, .int 0, .int 0, .ref q5, .ref q6, .ref q7, .ref q8, .int 0, .int 0, .int 0, .int 0, .ref q9, .int 0, .int 0, .int 0, .int 0, .int 0, .ref q10, .ref q11, .int 0, .ref q12, .null, .null, .int 0, .int 0, .int 0, .int 0, .null, .null, .null, .null, .null, .null]))], [(q1, .inl (G.2.1 0, 24, .inl (fun _ => 0)))], [(q2, .inl (G.2.1 0, 12, .inl (fun _ => 0)))], [(q3, .inl (G.2.1 0, 16, .inl (fun _ => 0)))], [(q4, .inl (G.2.1 0, 6, .inl (fun _ => 0)))], [(q5, .inl (G.2.1 0, 24, .inl (fun _ => 0)))], [(q6, .inl (G.2.1 0, 12, .inl (fun _ => 0)))], [(q7, .inl (G.2.1 0, 16, .inl (fun _ => 0)))], [(q8, .inl (G.2.1 0, 6, .inl (fun _ => 0)))], [(q9, .inl (G.2.1 0, 92, .inl (fun _ => 0)))], [(q10, .inl (G.2.1 0, 400, .inl (fun _ => 0)))], [(q11, .inl (G.2.1 0, 90, .inl (fun _ => 0)))], [(q12, .inl (G.2.1 0, 6, .inl (fun _ => 0)))], [(q13, .inl (G.2.1 0, 6, .inl (fun _ => 0)))]]) := fl_snocD hD
  refine va_putF (D := G.1) (cl := vwCl) (tys := tysG G) (ci := 11) (v := .ref q13) (ty := .array .int) (C := RX11) (T := TX11) (N := 37) hx hb hts iX11 tyX11 tyX11_ok nmX11 hown hG.1 hP hD hS 0 rfl rfl 25 (Nat.le_of_ble_eq_true rfl) (hts _ tw_4_123) (fun _ h9 => h9) rfl hin rfl (by decide +kernel) rfl rfl (Nat.le_of_ble_eq_true rfl) dX11_init_106 (fun H locs hP hD hS => ?_)
  have hP : va_P G.1 vwCl (List.flatten [[(q, .inr (11, [.ref q1, .ref q2, .ref q3, .ref q4, .int 0, .int 0, .int 0, .ref q5, .ref q6, .ref q7, .ref q8, .int 0, .int 0, .int 0, .int 0, .ref q9, .int 0, .int 0, .int 0, .int 0, .int 0, .ref q10, .ref q11, .int 0, .ref q12, .ref q13, .null, .int 0, .int 0, .int 0, .int 0, .null, .null, .null, .null, .null, .null]))], [(q1, .inl (G.2.1 0, 24, .inl (fun _ => 0)))], [(q2, .inl (G.2.1 0, 12, .inl (fun _ => 0)))], [(q3, .inl (G.2.1 0, 16, .inl (fun _ => 0)))], [(q4, .inl (G.2.1 0, 6, .inl (fun _ => 0)))], [(q5, .inl (G.2.1 0, 24, .inl (fun _ => 0)))], [(q6, .inl (G.2.1 0, 12, .inl (fun _ => 0)))], [(q7, .inl (G.2.1 0, 16, .inl (fun _ => 0)))], [(q8, .inl (G.2.1 0, 6, .inl (fun _ => 0)))], [(q9, .inl (G.2.1 0, 92, .inl (fun _ => 0)))], [(q10, .inl (G.2.1 0, 400, .inl (fun _ => 0)))], [(q11, .inl (G.2.1 0, 90, .inl (fun _ => 0)))], [(q12, .inl (G.2.1 0, 6, .inl (fun _ => 0)))], [(q13, .inl (G.2.1 0, 6, .inl (fun _ => 0)))]]) H := hP
  have hD : va_D A (List.flatten [[(q, .inr (11, [.ref q1, .ref q2, .ref q3, .ref q4, .int 0, .int 0, .int 0, .ref q5, .ref q6, .ref q7, .ref q8, .int 0, .int 0, .int 0, .int 0, .ref q9, .int 0, .int 0, .int 0, .int 0, .int 0, .ref q10, .ref q11, .int 0, .ref q12, .ref q13, .null, .int 0, .int 0, .int 0, .int 0, .null, .null, .null, .null, .null, .null]))], [(q1, .inl (G.2.1 0, 24, .inl (fun _ => 0)))], [(q2, .inl (G.2.1 0, 12, .inl (fun _ => 0)))], [(q3, .inl (G.2.1 0, 16, .inl (fun _ => 0)))], [(q4, .inl (G.2.1 0, 6, .inl (fun _ => 0)))], [(q5, .inl (G.2.1 0, 24, .inl (fun _ => 0)))], [(q6, .inl (G.2.1 0, 12, .inl (fun _ => 0)))], [(q7, .inl (G.2.1 0, 16, .inl (fun _ => 0)))], [(q8, .inl (G.2.1 0, 6, .inl (fun _ => 0)))], [(q9, .inl (G.2.1 0, 92, .inl (fun _ => 0)))], [(q10, .inl (G.2.1 0, 400, .inl (fun _ => 0)))], [(q11, .inl (G.2.1 0, 90, .inl (fun _ => 0)))], [(q12, .inl (G.2.1 0, 6, .inl (fun _ => 0)))], [(q13, .inl (G.2.1 0, 6, .inl (fun _ => 0)))]]) := hD
  refine lv_aload_n hx hb dX11_init_109 rfl (lv_at hl 0 rfl) ?_
  refine lv_sipush (v := 480) hx hb dX11_init_110 lh_480 ?_
  refine va_newa (atype := .int) (ty := .int) (a0 := (480, .inl (fun _ => 0))) hx hb (hts _ tw_1_87) rfl hG.1 hP hD hS hA (fun _ => rfl) (by decide) (by decide) (by decide) (Nat.le_of_ble_eq_true rfl) (Nat.le_of_ble_eq_true rfl) dX11_init_113 (fun q14 cA H hK1 hP hD hS => ?_)
  have eA := ca_eq 0 rfl hK1 (fun _ h => h)
  subst eA
  have hP : va_P G.1 vwCl (List.flatten [[(q, .inr (11, [.ref q1, .ref q2, .ref q3, .ref q4, .int 0, .int 0, .int 0, .ref q5, .ref q6, .ref q7, .ref q8, .int 0, .int 0, .int 0, .int 0, .ref q9, .int 0, .int 0, .int 0, .int 0, .int 0, .ref q10, .ref q11, .int 0, .ref q12, .ref q13, .null, .int 0, .int 0, .int 0, .int 0, .null, .null, .null, .null, .null, .null]))], [(q1, .inl (G.2.1 0, 24, .inl (fun _ => 0)))], [(q2, .inl (G.2.1 0, 12, .inl (fun _ => 0)))], [(q3, .inl (G.2.1 0, 16, .inl (fun _ => 0)))], [(q4, .inl (G.2.1 0, 6, .inl (fun _ => 0)))], [(q5, .inl (G.2.1 0, 24, .inl (fun _ => 0)))], [(q6, .inl (G.2.1 0, 12, .inl (fun _ => 0)))], [(q7, .inl (G.2.1 0, 16, .inl (fun _ => 0)))], [(q8, .inl (G.2.1 0, 6, .inl (fun _ => 0)))], [(q9, .inl (G.2.1 0, 92, .inl (fun _ => 0)))], [(q10, .inl (G.2.1 0, 400, .inl (fun _ => 0)))], [(q11, .inl (G.2.1 0, 90, .inl (fun _ => 0)))], [(q12, .inl (G.2.1 0, 6, .inl (fun _ => 0)))], [(q13, .inl (G.2.1 0, 6, .inl (fun _ => 0)))], [(q14, .inl (G.2.1 0, 480, .inl (fun _ => 0)))]]) H := fl_snoc hP
  have hD : va_D A (List.flatten [[(q, .inr (11, [.ref q1, .ref q2, .ref q3, .ref q4, .int 0, .int 0, .int 0, .ref q5, .ref q6, .ref q7, .ref q8, .int 0, .int 0, .int 0, .int 0, .ref q9, .int 0, .int 0, .int 0, .int 0, .int 0, .ref q10, .ref q11, .int 0, .ref q12, .ref q13, .null, .int 0, .int 0, .int 0, .int 0, .null, .null, .null, .null, .null, .null]))], [(q1, .inl (G.2.1 0, 24, .inl (fun _ => 0)))], [(q2, .inl (G.2.1 0, 12, .inl (fun _ => 0)))], [(q3, .inl (G.2.1 0, 16, .inl (fun _ => 0)))], [(q4, .inl (G.2.1 0, 6, .inl (fun _ => 0)))], [(q5, .inl (G.2.1 0, 24, .inl (fun _ => 0)))], [(q6, .inl (G.2.1 0, 12, .inl (fun _ => 0)))], [(q7, .inl (G.2.1 0, 16, .inl (fun _ => 0)))], [(q8, .inl (G.2.1 0, 6, .inl (fun _ => 0)))], [(q9, .inl (G.2.1 0, 92, .inl (fun _ => 0)))], [(q10, .inl (G.2.1 0, 400, .inl (fun _ => 0)))], [(q11, .inl (G.2.1 0, 90, .inl (fun _ => 0)))], [(q12, .inl (G.2.1 0, 6, .inl (fun _ => 0)))], [(q13, .inl (G.2.1 0, 6, .inl (fun _ => 0)))], [(q14, .inl (G.2.1 0, 480, .inl (fun _ => 0)))]]) := fl_snocD hD
  refine va_putF (D := G.1) (cl := vwCl) (tys := tysG G) (ci := 11) (v := .ref q14) (ty := .array .int) (C := RX11) (T := TX11) (N := 37) hx hb hts iX11 tyX11 tyX11_ok nmX11 hown hG.1 hP hD hS 0 rfl rfl 26 (Nat.le_of_ble_eq_true rfl) (hts _ tw_4_124) (fun _ h9 => h9) rfl hin rfl (by decide +kernel) rfl rfl (Nat.le_of_ble_eq_true rfl) dX11_init_115 (fun H locs hP hD hS => ?_)
  have hP : va_P G.1 vwCl (List.flatten [[(q, .inr (11, [.ref q1, .ref q2, .ref q3, .ref q4, .int 0, .int 0, .int 0, .ref q5, .ref q6, .ref q7, .ref q8, .int 0, .int 0, .int 0, .int 0, .ref q9, .int 0, .int 0, .int 0, .int 0, .int 0, .ref q10, .ref q11, .int 0, .ref q12, .ref q13, .ref q14, .int 0, .int 0, .int 0, .int 0, .null, .null, .null, .null, .null, .null]))], [(q1, .inl (G.2.1 0, 24, .inl (fun _ => 0)))], [(q2, .inl (G.2.1 0, 12, .inl (fun _ => 0)))], [(q3, .inl (G.2.1 0, 16, .inl (fun _ => 0)))], [(q4, .inl (G.2.1 0, 6, .inl (fun _ => 0)))], [(q5, .inl (G.2.1 0, 24, .inl (fun _ => 0)))], [(q6, .inl (G.2.1 0, 12, .inl (fun _ => 0)))], [(q7, .inl (G.2.1 0, 16, .inl (fun _ => 0)))], [(q8, .inl (G.2.1 0, 6, .inl (fun _ => 0)))], [(q9, .inl (G.2.1 0, 92, .inl (fun _ => 0)))], [(q10, .inl (G.2.1 0, 400, .inl (fun _ => 0)))], [(q11, .inl (G.2.1 0, 90, .inl (fun _ => 0)))], [(q12, .inl (G.2.1 0, 6, .inl (fun _ => 0)))], [(q13, .inl (G.2.1 0, 6, .inl (fun _ => 0)))], [(q14, .inl (G.2.1 0, 480, .inl (fun _ => 0)))]]) H := hP
  have hD : va_D A (List.flatten [[(q, .inr (11, [.ref q1, .ref q2, .ref q3, .ref q4, .int 0, .int 0, .int 0, .ref q5, .ref q6, .ref q7, .ref q8, .int 0, .int 0, .int 0, .int 0, .ref q9, .int 0, .int 0, .int 0, .int 0, .int 0, .ref q10, .ref q11, .int 0, .ref q12, .ref q13, .ref q14, .int 0, .int 0, .int 0, .int 0, .null, .null, .null, .null, .null, .null]))], [(q1, .inl (G.2.1 0, 24, .inl (fun _ => 0)))], [(q2, .inl (G.2.1 0, 12, .inl (fun _ => 0)))], [(q3, .inl (G.2.1 0, 16, .inl (fun _ => 0)))], [(q4, .inl (G.2.1 0, 6, .inl (fun _ => 0)))], [(q5, .inl (G.2.1 0, 24, .inl (fun _ => 0)))], [(q6, .inl (G.2.1 0, 12, .inl (fun _ => 0)))], [(q7, .inl (G.2.1 0, 16, .inl (fun _ => 0)))], [(q8, .inl (G.2.1 0, 6, .inl (fun _ => 0)))], [(q9, .inl (G.2.1 0, 92, .inl (fun _ => 0)))], [(q10, .inl (G.2.1 0, 400, .inl (fun _ => 0)))], [(q11, .inl (G.2.1 0, 90, .inl (fun _ => 0)))], [(q12, .inl (G.2.1 0, 6, .inl (fun _ => 0)))], [(q13, .inl (G.2.1 0, 6, .inl (fun _ => 0)))], [(q14, .inl (G.2.1 0, 480, .inl (fun _ => 0)))]]) := hD
  refine lv_aload_n hx hb dX11_init_118 rfl (lv_at hl 0 rfl) ?_
  refine lv_sipush (v := 16384) hx hb dX11_init_119 lh_16384 ?_
  refine va_newa (atype := .boolean) (ty := .boolean) (a0 := (16384, .inl (fun _ => 0))) hx hb (hts _ tw_4_210) rfl hG.1 hP hD hS hA (fun _ => rfl) (by decide) (by decide) (by decide) (Nat.le_of_ble_eq_true rfl) (Nat.le_of_ble_eq_true rfl) dX11_init_122 (fun q15 cA H hK1 hP hD hS => ?_)
  have eA := ca_eq 2 rfl hK1 (fun _ h => h)
  subst eA
  have hP : va_P G.1 vwCl (List.flatten [[(q, .inr (11, [.ref q1, .ref q2, .ref q3, .ref q4, .int 0, .int 0, .int 0, .ref q5, .ref q6, .ref q7, .ref q8, .int 0, .int 0, .int 0, .int 0, .ref q9, .int 0, .int 0, .int 0, .int 0, .int 0, .ref q10, .ref q11, .int 0, .ref q12, .ref q13, .ref q14, .int 0, .int 0, .int 0, .int 0, .null, .null, .null, .null, .null, .null]))], [(q1, .inl (G.2.1 0, 24, .inl (fun _ => 0)))], [(q2, .inl (G.2.1 0, 12, .inl (fun _ => 0)))], [(q3, .inl (G.2.1 0, 16, .inl (fun _ => 0)))], [(q4, .inl (G.2.1 0, 6, .inl (fun _ => 0)))], [(q5, .inl (G.2.1 0, 24, .inl (fun _ => 0)))], [(q6, .inl (G.2.1 0, 12, .inl (fun _ => 0)))], [(q7, .inl (G.2.1 0, 16, .inl (fun _ => 0)))], [(q8, .inl (G.2.1 0, 6, .inl (fun _ => 0)))], [(q9, .inl (G.2.1 0, 92, .inl (fun _ => 0)))], [(q10, .inl (G.2.1 0, 400, .inl (fun _ => 0)))], [(q11, .inl (G.2.1 0, 90, .inl (fun _ => 0)))], [(q12, .inl (G.2.1 0, 6, .inl (fun _ => 0)))], [(q13, .inl (G.2.1 0, 6, .inl (fun _ => 0)))], [(q14, .inl (G.2.1 0, 480, .inl (fun _ => 0)))], [(q15, .inl (G.2.1 2, 16384, .inl (fun _ => 0)))]]) H := fl_snoc hP
  have hD : va_D A (List.flatten [[(q, .inr (11, [.ref q1, .ref q2, .ref q3, .ref q4, .int 0, .int 0, .int 0, .ref q5, .ref q6, .ref q7, .ref q8, .int 0, .int 0, .int 0, .int 0, .ref q9, .int 0, .int 0, .int 0, .int 0, .int 0, .ref q10, .ref q11, .int 0, .ref q12, .ref q13, .ref q14, .int 0, .int 0, .int 0, .int 0, .null, .null, .null, .null, .null, .null]))], [(q1, .inl (G.2.1 0, 24, .inl (fun _ => 0)))], [(q2, .inl (G.2.1 0, 12, .inl (fun _ => 0)))], [(q3, .inl (G.2.1 0, 16, .inl (fun _ => 0)))], [(q4, .inl (G.2.1 0, 6, .inl (fun _ => 0)))], [(q5, .inl (G.2.1 0, 24, .inl (fun _ => 0)))], [(q6, .inl (G.2.1 0, 12, .inl (fun _ => 0)))], [(q7, .inl (G.2.1 0, 16, .inl (fun _ => 0)))], [(q8, .inl (G.2.1 0, 6, .inl (fun _ => 0)))], [(q9, .inl (G.2.1 0, 92, .inl (fun _ => 0)))], [(q10, .inl (G.2.1 0, 400, .inl (fun _ => 0)))], [(q11, .inl (G.2.1 0, 90, .inl (fun _ => 0)))], [(q12, .inl (G.2.1 0, 6, .inl (fun _ => 0)))], [(q13, .inl (G.2.1 0, 6, .inl (fun _ => 0)))], [(q14, .inl (G.2.1 0, 480, .inl (fun _ => 0)))], [(q15, .inl (G.2.1 2, 16384, .inl (fun _ => 0)))]]) := fl_snocD hD
  refine va_putF (D := G.1) (cl := vwCl) (tys := tysG G) (ci := 11) (v := .ref q15) (ty := .array .boolean) (C := RX11) (T := TX11) (N := 37) hx hb hts iX11 tyX11 tyX11_ok nmX11 hown hG.1 hP hD hS 0 rfl rfl 31 (Nat.le_of_ble_eq_true rfl) (hts _ tw_4_129) (fun _ h9 => h9) rfl hin rfl (by decide +kernel) rfl rfl (Nat.le_of_ble_eq_true rfl) dX11_init_124 (fun H locs hP hD hS => ?_)
  have hP : va_P G.1 vwCl (List.flatten [[(q, .inr (11, [.ref q1, .ref q2, .ref q3, .ref q4, .int 0, .int 0, .int 0, .ref q5, .ref q6, .ref q7, .ref q8, .int 0, .int 0, .int 0, .int 0, .ref q9, .int 0, .int 0, .int 0, .int 0, .int 0, .ref q10, .ref q11, .int 0, .ref q12, .ref q13, .ref q14, .int 0, .int 0, .int 0, .int 0, .ref q15, .null, .null, .null, .null, .null]))], [(q1, .inl (G.2.1 0, 24, .inl (fun _ => 0)))], [(q2, .inl (G.2.1 0, 12, .inl (fun _ => 0)))], [(q3, .inl (G.2.1 0, 16, .inl (fun _ => 0)))], [(q4, .inl (G.2.1 0, 6, .inl (fun _ => 0)))], [(q5, .inl (G.2.1 0, 24, .inl (fun _ => 0)))], [(q6, .inl (G.2.1 0, 12, .inl (fun _ => 0)))], [(q7, .inl (G.2.1 0, 16, .inl (fun _ => 0)))], [(q8, .inl (G.2.1 0, 6, .inl (fun _ => 0)))], [(q9, .inl (G.2.1 0, 92, .inl (fun _ => 0)))], [(q10, .inl (G.2.1 0, 400, .inl (fun _ => 0)))], [(q11, .inl (G.2.1 0, 90, .inl (fun _ => 0)))], [(q12, .inl (G.2.1 0, 6, .inl (fun _ => 0)))], [(q13, .inl (G.2.1 0, 6, .inl (fun _ => 0)))], [(q14, .inl (G.2.1 0, 480, .inl (fun _ => 0)))], [(q15, .inl (G.2.1 2, 16384, .inl (fun _ => 0)))]]) H := hP
  have hD : va_D A (List.flatten [[(q, .inr (11, [.ref q1, .ref q2, .ref q3, .ref q4, .int 0, .int 0, .int 0, .ref q5, .ref q6, .ref q7, .ref q8, .int 0, .int 0, .int 0, .int 0, .ref q9, .int 0, .int 0, .int 0, .int 0, .int 0, .ref q10, .ref q11, .int 0, .ref q12, .ref q13, .ref q14, .int 0, .int 0, .int 0, .int 0, .ref q15, .null, .null, .null, .null, .null]))], [(q1, .inl (G.2.1 0, 24, .inl (fun _ => 0)))], [(q2, .inl (G.2.1 0, 12, .inl (fun _ => 0)))], [(q3, .inl (G.2.1 0, 16, .inl (fun _ => 0)))], [(q4, .inl (G.2.1 0, 6, .inl (fun _ => 0)))], [(q5, .inl (G.2.1 0, 24, .inl (fun _ => 0)))], [(q6, .inl (G.2.1 0, 12, .inl (fun _ => 0)))], [(q7, .inl (G.2.1 0, 16, .inl (fun _ => 0)))], [(q8, .inl (G.2.1 0, 6, .inl (fun _ => 0)))], [(q9, .inl (G.2.1 0, 92, .inl (fun _ => 0)))], [(q10, .inl (G.2.1 0, 400, .inl (fun _ => 0)))], [(q11, .inl (G.2.1 0, 90, .inl (fun _ => 0)))], [(q12, .inl (G.2.1 0, 6, .inl (fun _ => 0)))], [(q13, .inl (G.2.1 0, 6, .inl (fun _ => 0)))], [(q14, .inl (G.2.1 0, 480, .inl (fun _ => 0)))], [(q15, .inl (G.2.1 2, 16384, .inl (fun _ => 0)))]]) := hD
  refine lv_aload_n hx hb dX11_init_127 rfl (lv_at hl 0 rfl) ?_
  refine lv_iconst (v := 2) hx hb dX11_init_128 li_2 ?_
  refine va_newa (atype := .boolean) (ty := .boolean) (a0 := (2, .inl (fun _ => 0))) hx hb (hts _ tw_4_210) rfl hG.1 hP hD hS hA (fun _ => rfl) (by decide) (by decide) (by decide) (Nat.le_of_ble_eq_true rfl) (Nat.le_of_ble_eq_true rfl) dX11_init_129 (fun q16 cA H hK1 hP hD hS => ?_)
  have eA := ca_eq 2 rfl hK1 (fun _ h => h)
  subst eA
  have hP : va_P G.1 vwCl (List.flatten [[(q, .inr (11, [.ref q1, .ref q2, .ref q3, .ref q4, .int 0, .int 0, .int 0, .ref q5, .ref q6, .ref q7, .ref q8, .int 0, .int 0, .int 0, .int 0, .ref q9, .int 0, .int 0, .int 0, .int 0, .int 0, .ref q10, .ref q11, .int 0, .ref q12, .ref q13, .ref q14, .int 0, .int 0, .int 0, .int 0, .ref q15, .null, .null, .null, .null, .null]))], [(q1, .inl (G.2.1 0, 24, .inl (fun _ => 0)))], [(q2, .inl (G.2.1 0, 12, .inl (fun _ => 0)))], [(q3, .inl (G.2.1 0, 16, .inl (fun _ => 0)))], [(q4, .inl (G.2.1 0, 6, .inl (fun _ => 0)))], [(q5, .inl (G.2.1 0, 24, .inl (fun _ => 0)))], [(q6, .inl (G.2.1 0, 12, .inl (fun _ => 0)))], [(q7, .inl (G.2.1 0, 16, .inl (fun _ => 0)))], [(q8, .inl (G.2.1 0, 6, .inl (fun _ => 0)))], [(q9, .inl (G.2.1 0, 92, .inl (fun _ => 0)))], [(q10, .inl (G.2.1 0, 400, .inl (fun _ => 0)))], [(q11, .inl (G.2.1 0, 90, .inl (fun _ => 0)))], [(q12, .inl (G.2.1 0, 6, .inl (fun _ => 0)))], [(q13, .inl (G.2.1 0, 6, .inl (fun _ => 0)))], [(q14, .inl (G.2.1 0, 480, .inl (fun _ => 0)))], [(q15, .inl (G.2.1 2, 16384, .inl (fun _ => 0)))], [(q16, .inl (G.2.1 2, 2, .inl (fun _ => 0)))]]) H := fl_snoc hP
  have hD : va_D A (List.flatten [[(q, .inr (11, [.ref q1, .ref q2, .ref q3, .ref q4, .int 0, .int 0, .int 0, .ref q5, .ref q6, .ref q7, .ref q8, .int 0, .int 0, .int 0, .int 0, .ref q9, .int 0, .int 0, .int 0, .int 0, .int 0, .ref q10, .ref q11, .int 0, .ref q12, .ref q13, .ref q14, .int 0, .int 0, .int 0, .int 0, .ref q15, .null, .null, .null, .null, .null]))], [(q1, .inl (G.2.1 0, 24, .inl (fun _ => 0)))], [(q2, .inl (G.2.1 0, 12, .inl (fun _ => 0)))], [(q3, .inl (G.2.1 0, 16, .inl (fun _ => 0)))], [(q4, .inl (G.2.1 0, 6, .inl (fun _ => 0)))], [(q5, .inl (G.2.1 0, 24, .inl (fun _ => 0)))], [(q6, .inl (G.2.1 0, 12, .inl (fun _ => 0)))], [(q7, .inl (G.2.1 0, 16, .inl (fun _ => 0)))], [(q8, .inl (G.2.1 0, 6, .inl (fun _ => 0)))], [(q9, .inl (G.2.1 0, 92, .inl (fun _ => 0)))], [(q10, .inl (G.2.1 0, 400, .inl (fun _ => 0)))], [(q11, .inl (G.2.1 0, 90, .inl (fun _ => 0)))], [(q12, .inl (G.2.1 0, 6, .inl (fun _ => 0)))], [(q13, .inl (G.2.1 0, 6, .inl (fun _ => 0)))], [(q14, .inl (G.2.1 0, 480, .inl (fun _ => 0)))], [(q15, .inl (G.2.1 2, 16384, .inl (fun _ => 0)))], [(q16, .inl (G.2.1 2, 2, .inl (fun _ => 0)))]]) := fl_snocD hD
  refine va_putF (D := G.1) (cl := vwCl) (tys := tysG G) (ci := 11) (v := .ref q16) (ty := .array .boolean) (C := RX11) (T := TX11) (N := 37) hx hb hts iX11 tyX11 tyX11_ok nmX11 hown hG.1 hP hD hS 0 rfl rfl 32 (Nat.le_of_ble_eq_true rfl) (hts _ tw_4_130) (fun _ h9 => h9) rfl hin rfl (by decide +kernel) rfl rfl (Nat.le_of_ble_eq_true rfl) dX11_init_131 (fun H locs hP hD hS => ?_)
  have hP : va_P G.1 vwCl (List.flatten [[(q, .inr (11, [.ref q1, .ref q2, .ref q3, .ref q4, .int 0, .int 0, .int 0, .ref q5, .ref q6, .ref q7, .ref q8, .int 0, .int 0, .int 0, .int 0, .ref q9, .int 0, .int 0, .int 0, .int 0, .int 0, .ref q10, .ref q11, .int 0, .ref q12, .ref q13, .ref q14, .int 0, .int 0, .int 0, .int 0, .ref q15, .ref q16, .null, .null, .null, .null]))], [(q1, .inl (G.2.1 0, 24, .inl (fun _ => 0)))], [(q2, .inl (G.2.1 0, 12, .inl (fun _ => 0)))], [(q3, .inl (G.2.1 0, 16, .inl (fun _ => 0)))], [(q4, .inl (G.2.1 0, 6, .inl (fun _ => 0)))], [(q5, .inl (G.2.1 0, 24, .inl (fun _ => 0)))], [(q6, .inl (G.2.1 0, 12, .inl (fun _ => 0)))], [(q7, .inl (G.2.1 0, 16, .inl (fun _ => 0)))], [(q8, .inl (G.2.1 0, 6, .inl (fun _ => 0)))], [(q9, .inl (G.2.1 0, 92, .inl (fun _ => 0)))], [(q10, .inl (G.2.1 0, 400, .inl (fun _ => 0)))], [(q11, .inl (G.2.1 0, 90, .inl (fun _ => 0)))], [(q12, .inl (G.2.1 0, 6, .inl (fun _ => 0)))], [(q13, .inl (G.2.1 0, 6, .inl (fun _ => 0)))], [(q14, .inl (G.2.1 0, 480, .inl (fun _ => 0)))], [(q15, .inl (G.2.1 2, 16384, .inl (fun _ => 0)))], [(q16, .inl (G.2.1 2, 2, .inl (fun _ => 0)))]]) H := hP
  have hD : va_D A (List.flatten [[(q, .inr (11, [.ref q1, .ref q2, .ref q3, .ref q4, .int 0, .int 0, .int 0, .ref q5, .ref q6, .ref q7, .ref q8, .int 0, .int 0, .int 0, .int 0, .ref q9, .int 0, .int 0, .int 0, .int 0, .int 0, .ref q10, .ref q11, .int 0, .ref q12, .ref q13, .ref q14, .int 0, .int 0, .int 0, .int 0, .ref q15, .ref q16, .null, .null, .null, .null]))], [(q1, .inl (G.2.1 0, 24, .inl (fun _ => 0)))], [(q2, .inl (G.2.1 0, 12, .inl (fun _ => 0)))], [(q3, .inl (G.2.1 0, 16, .inl (fun _ => 0)))], [(q4, .inl (G.2.1 0, 6, .inl (fun _ => 0)))], [(q5, .inl (G.2.1 0, 24, .inl (fun _ => 0)))], [(q6, .inl (G.2.1 0, 12, .inl (fun _ => 0)))], [(q7, .inl (G.2.1 0, 16, .inl (fun _ => 0)))], [(q8, .inl (G.2.1 0, 6, .inl (fun _ => 0)))], [(q9, .inl (G.2.1 0, 92, .inl (fun _ => 0)))], [(q10, .inl (G.2.1 0, 400, .inl (fun _ => 0)))], [(q11, .inl (G.2.1 0, 90, .inl (fun _ => 0)))], [(q12, .inl (G.2.1 0, 6, .inl (fun _ => 0)))], [(q13, .inl (G.2.1 0, 6, .inl (fun _ => 0)))], [(q14, .inl (G.2.1 0, 480, .inl (fun _ => 0)))], [(q15, .inl (G.2.1 2, 16384, .inl (fun _ => 0)))], [(q16, .inl (G.2.1 2, 2, .inl (fun _ => 0)))]]) := hD
  refine lv_aload_n hx hb dX11_init_134 rfl (lv_at hl 0 rfl) ?_
  refine lv_bipush (v := 50) hx hb dX11_init_135 lb_50 ?_
  refine va_newa (atype := .int) (ty := .int) (a0 := (50, .inl (fun _ => 0))) hx hb (hts _ tw_1_87) rfl hG.1 hP hD hS hA (fun _ => rfl) (by decide) (by decide) (by decide) (Nat.le_of_ble_eq_true rfl) (Nat.le_of_ble_eq_true rfl) dX11_init_137 (fun q17 cA H hK1 hP hD hS => ?_)
  have eA := ca_eq 0 rfl hK1 (fun _ h => h)
  subst eA
  have hP : va_P G.1 vwCl (List.flatten [[(q, .inr (11, [.ref q1, .ref q2, .ref q3, .ref q4, .int 0, .int 0, .int 0, .ref q5, .ref q6, .ref q7, .ref q8, .int 0, .int 0, .int 0, .int 0, .ref q9, .int 0, .int 0, .int 0, .int 0, .int 0, .ref q10, .ref q11, .int 0, .ref q12, .ref q13, .ref q14, .int 0, .int 0, .int 0, .int 0, .ref q15, .ref q16, .null, .null, .null, .null]))], [(q1, .inl (G.2.1 0, 24, .inl (fun _ => 0)))], [(q2, .inl (G.2.1 0, 12, .inl (fun _ => 0)))], [(q3, .inl (G.2.1 0, 16, .inl (fun _ => 0)))], [(q4, .inl (G.2.1 0, 6, .inl (fun _ => 0)))], [(q5, .inl (G.2.1 0, 24, .inl (fun _ => 0)))], [(q6, .inl (G.2.1 0, 12, .inl (fun _ => 0)))], [(q7, .inl (G.2.1 0, 16, .inl (fun _ => 0)))], [(q8, .inl (G.2.1 0, 6, .inl (fun _ => 0)))], [(q9, .inl (G.2.1 0, 92, .inl (fun _ => 0)))], [(q10, .inl (G.2.1 0, 400, .inl (fun _ => 0)))], [(q11, .inl (G.2.1 0, 90, .inl (fun _ => 0)))], [(q12, .inl (G.2.1 0, 6, .inl (fun _ => 0)))], [(q13, .inl (G.2.1 0, 6, .inl (fun _ => 0)))], [(q14, .inl (G.2.1 0, 480, .inl (fun _ => 0)))], [(q15, .inl (G.2.1 2, 16384, .inl (fun _ => 0)))], [(q16, .inl (G.2.1 2, 2, .inl (fun _ => 0)))], [(q17, .inl (G.2.1 0, 50, .inl (fun _ => 0)))]]) H := fl_snoc hP
  have hD : va_D A (List.flatten [[(q, .inr (11, [.ref q1, .ref q2, .ref q3, .ref q4, .int 0, .int 0, .int 0, .ref q5, .ref q6, .ref q7, .ref q8, .int 0, .int 0, .int 0, .int 0, .ref q9, .int 0, .int 0, .int 0, .int 0, .int 0, .ref q10, .ref q11, .int 0, .ref q12, .ref q13, .ref q14, .int 0, .int 0, .int 0, .int 0, .ref q15, .ref q16, .null, .null, .null, .null]))], [(q1, .inl (G.2.1 0, 24, .inl (fun _ => 0)))], [(q2, .inl (G.2.1 0, 12, .inl (fun _ => 0)))], [(q3, .inl (G.2.1 0, 16, .inl (fun _ => 0)))], [(q4, .inl (G.2.1 0, 6, .inl (fun _ => 0)))], [(q5, .inl (G.2.1 0, 24, .inl (fun _ => 0)))], [(q6, .inl (G.2.1 0, 12, .inl (fun _ => 0)))], [(q7, .inl (G.2.1 0, 16, .inl (fun _ => 0)))], [(q8, .inl (G.2.1 0, 6, .inl (fun _ => 0)))], [(q9, .inl (G.2.1 0, 92, .inl (fun _ => 0)))], [(q10, .inl (G.2.1 0, 400, .inl (fun _ => 0)))], [(q11, .inl (G.2.1 0, 90, .inl (fun _ => 0)))], [(q12, .inl (G.2.1 0, 6, .inl (fun _ => 0)))], [(q13, .inl (G.2.1 0, 6, .inl (fun _ => 0)))], [(q14, .inl (G.2.1 0, 480, .inl (fun _ => 0)))], [(q15, .inl (G.2.1 2, 16384, .inl (fun _ => 0)))], [(q16, .inl (G.2.1 2, 2, .inl (fun _ => 0)))], [(q17, .inl (G.2.1 0, 50, .inl (fun _ => 0)))]]) := fl_snocD hD
  refine va_putF (D := G.1) (cl := vwCl) (tys := tysG G) (ci := 11) (v := .ref q17) (ty := .array .int) (C := RX11) (T := TX11) (N := 37) hx hb hts iX11 tyX11 tyX11_ok nmX11 hown hG.1 hP hD hS 0 rfl rfl 33 (Nat.le_of_ble_eq_true rfl) (hts _ tw_4_131) (fun _ h9 => h9) rfl hin rfl (by decide +kernel) rfl rfl (Nat.le_of_ble_eq_true rfl) dX11_init_139 (fun H locs hP hD hS => ?_)
  have hP : va_P G.1 vwCl (List.flatten [[(q, .inr (11, [.ref q1, .ref q2, .ref q3, .ref q4, .int 0, .int 0, .int 0, .ref q5, .ref q6, .ref q7, .ref q8, .int 0, .int 0, .int 0, .int 0, .ref q9, .int 0, .int 0, .int 0, .int 0, .int 0, .ref q10, .ref q11, .int 0, .ref q12, .ref q13, .ref q14, .int 0, .int 0, .int 0, .int 0, .ref q15, .ref q16, .ref q17, .null, .null, .null]))], [(q1, .inl (G.2.1 0, 24, .inl (fun _ => 0)))], [(q2, .inl (G.2.1 0, 12, .inl (fun _ => 0)))], [(q3, .inl (G.2.1 0, 16, .inl (fun _ => 0)))], [(q4, .inl (G.2.1 0, 6, .inl (fun _ => 0)))], [(q5, .inl (G.2.1 0, 24, .inl (fun _ => 0)))], [(q6, .inl (G.2.1 0, 12, .inl (fun _ => 0)))], [(q7, .inl (G.2.1 0, 16, .inl (fun _ => 0)))], [(q8, .inl (G.2.1 0, 6, .inl (fun _ => 0)))], [(q9, .inl (G.2.1 0, 92, .inl (fun _ => 0)))], [(q10, .inl (G.2.1 0, 400, .inl (fun _ => 0)))], [(q11, .inl (G.2.1 0, 90, .inl (fun _ => 0)))], [(q12, .inl (G.2.1 0, 6, .inl (fun _ => 0)))], [(q13, .inl (G.2.1 0, 6, .inl (fun _ => 0)))], [(q14, .inl (G.2.1 0, 480, .inl (fun _ => 0)))], [(q15, .inl (G.2.1 2, 16384, .inl (fun _ => 0)))], [(q16, .inl (G.2.1 2, 2, .inl (fun _ => 0)))], [(q17, .inl (G.2.1 0, 50, .inl (fun _ => 0)))]]) H := hP
  have hD : va_D A (List.flatten [[(q, .inr (11, [.ref q1, .ref q2, .ref q3, .ref q4, .int 0, .int 0, .int 0, .ref q5, .ref q6, .ref q7, .ref q8, .int 0, .int 0, .int 0, .int 0, .ref q9, .int 0, .int 0, .int 0, .int 0, .int 0, .ref q10, .ref q11, .int 0, .ref q12, .ref q13, .ref q14, .int 0, .int 0, .int 0, .int 0, .ref q15, .ref q16, .ref q17, .null, .null, .null]))], [(q1, .inl (G.2.1 0, 24, .inl (fun _ => 0)))], [(q2, .inl (G.2.1 0, 12, .inl (fun _ => 0)))], [(q3, .inl (G.2.1 0, 16, .inl (fun _ => 0)))], [(q4, .inl (G.2.1 0, 6, .inl (fun _ => 0)))], [(q5, .inl (G.2.1 0, 24, .inl (fun _ => 0)))], [(q6, .inl (G.2.1 0, 12, .inl (fun _ => 0)))], [(q7, .inl (G.2.1 0, 16, .inl (fun _ => 0)))], [(q8, .inl (G.2.1 0, 6, .inl (fun _ => 0)))], [(q9, .inl (G.2.1 0, 92, .inl (fun _ => 0)))], [(q10, .inl (G.2.1 0, 400, .inl (fun _ => 0)))], [(q11, .inl (G.2.1 0, 90, .inl (fun _ => 0)))], [(q12, .inl (G.2.1 0, 6, .inl (fun _ => 0)))], [(q13, .inl (G.2.1 0, 6, .inl (fun _ => 0)))], [(q14, .inl (G.2.1 0, 480, .inl (fun _ => 0)))], [(q15, .inl (G.2.1 2, 16384, .inl (fun _ => 0)))], [(q16, .inl (G.2.1 2, 2, .inl (fun _ => 0)))], [(q17, .inl (G.2.1 0, 50, .inl (fun _ => 0)))]]) := hD
  refine lv_aload_n hx hb dX11_init_142 rfl (lv_at hl 0 rfl) ?_
  refine lv_bipush (v := 12) hx hb dX11_init_143 lb_12 ?_
  refine va_newa (atype := .int) (ty := .int) (a0 := (12, .inl (fun _ => 0))) hx hb (hts _ tw_1_87) rfl hG.1 hP hD hS hA (fun _ => rfl) (by decide) (by decide) (by decide) (Nat.le_of_ble_eq_true rfl) (Nat.le_of_ble_eq_true rfl) dX11_init_145 (fun q18 cA H hK1 hP hD hS => ?_)
  have eA := ca_eq 0 rfl hK1 (fun _ h => h)
  subst eA
  have hP : va_P G.1 vwCl (List.flatten [[(q, .inr (11, [.ref q1, .ref q2, .ref q3, .ref q4, .int 0, .int 0, .int 0, .ref q5, .ref q6, .ref q7, .ref q8, .int 0, .int 0, .int 0, .int 0, .ref q9, .int 0, .int 0, .int 0, .int 0, .int 0, .ref q10, .ref q11, .int 0, .ref q12, .ref q13, .ref q14, .int 0, .int 0, .int 0, .int 0, .ref q15, .ref q16, .ref q17, .null, .null, .null]))], [(q1, .inl (G.2.1 0, 24, .inl (fun _ => 0)))], [(q2, .inl (G.2.1 0, 12, .inl (fun _ => 0)))], [(q3, .inl (G.2.1 0, 16, .inl (fun _ => 0)))], [(q4, .inl (G.2.1 0, 6, .inl (fun _ => 0)))], [(q5, .inl (G.2.1 0, 24, .inl (fun _ => 0)))], [(q6, .inl (G.2.1 0, 12, .inl (fun _ => 0)))], [(q7, .inl (G.2.1 0, 16, .inl (fun _ => 0)))], [(q8, .inl (G.2.1 0, 6, .inl (fun _ => 0)))], [(q9, .inl (G.2.1 0, 92, .inl (fun _ => 0)))], [(q10, .inl (G.2.1 0, 400, .inl (fun _ => 0)))], [(q11, .inl (G.2.1 0, 90, .inl (fun _ => 0)))], [(q12, .inl (G.2.1 0, 6, .inl (fun _ => 0)))], [(q13, .inl (G.2.1 0, 6, .inl (fun _ => 0)))], [(q14, .inl (G.2.1 0, 480, .inl (fun _ => 0)))], [(q15, .inl (G.2.1 2, 16384, .inl (fun _ => 0)))], [(q16, .inl (G.2.1 2, 2, .inl (fun _ => 0)))], [(q17, .inl (G.2.1 0, 50, .inl (fun _ => 0)))], [(q18, .inl (G.2.1 0, 12, .inl (fun _ => 0)))]]) H := fl_snoc hP
  have hD : va_D A (List.flatten [[(q, .inr (11, [.ref q1, .ref q2, .ref q3, .ref q4, .int 0, .int 0, .int 0, .ref q5, .ref q6, .ref q7, .ref q8, .int 0, .int 0, .int 0, .int 0, .ref q9, .int 0, .int 0, .int 0, .int 0, .int 0, .ref q10, .ref q11, .int 0, .ref q12, .ref q13, .ref q14, .int 0, .int 0, .int 0, .int 0, .ref q15, .ref q16, .ref q17, .null, .null, .null]))], [(q1, .inl (G.2.1 0, 24, .inl (fun _ => 0)))], [(q2, .inl (G.2.1 0, 12, .inl (fun _ => 0)))], [(q3, .inl (G.2.1 0, 16, .inl (fun _ => 0)))], [(q4, .inl (G.2.1 0, 6, .inl (fun _ => 0)))], [(q5, .inl (G.2.1 0, 24, .inl (fun _ => 0)))], [(q6, .inl (G.2.1 0, 12, .inl (fun _ => 0)))], [(q7, .inl (G.2.1 0, 16, .inl (fun _ => 0)))], [(q8, .inl (G.2.1 0, 6, .inl (fun _ => 0)))], [(q9, .inl (G.2.1 0, 92, .inl (fun _ => 0)))], [(q10, .inl (G.2.1 0, 400, .inl (fun _ => 0)))], [(q11, .inl (G.2.1 0, 90, .inl (fun _ => 0)))], [(q12, .inl (G.2.1 0, 6, .inl (fun _ => 0)))], [(q13, .inl (G.2.1 0, 6, .inl (fun _ => 0)))], [(q14, .inl (G.2.1 0, 480, .inl (fun _ => 0)))], [(q15, .inl (G.2.1 2, 16384, .inl (fun _ => 0)))], [(q16, .inl (G.2.1 2, 2, .inl (fun _ => 0)))], [(q17, .inl (G.2.1 0, 50, .inl (fun _ => 0)))], [(q18, .inl (G.2.1 0, 12, .inl (fun _ => 0)))]]) := fl_snocD hD
  refine va_putF (D := G.1) (cl := vwCl) (tys := tysG G) (ci := 11) (v := .ref q18) (ty := .array .int) (C := RX11) (T := TX11) (N := 37) hx hb hts iX11 tyX11 tyX11_ok nmX11 hown hG.1 hP hD hS 0 rfl rfl 34 (Nat.le_of_ble_eq_true rfl) (hts _ tw_4_132) (fun _ h9 => h9) rfl hin rfl (by decide +kernel) rfl rfl (Nat.le_of_ble_eq_true rfl) dX11_init_147 (fun H locs hP hD hS => ?_)
  have hP : va_P G.1 vwCl (List.flatten [[(q, .inr (11, [.ref q1, .ref q2, .ref q3, .ref q4, .int 0, .int 0, .int 0, .ref q5, .ref q6, .ref q7, .ref q8, .int 0, .int 0, .int 0, .int 0, .ref q9, .int 0, .int 0, .int 0, .int 0, .int 0, .ref q10, .ref q11, .int 0, .ref q12, .ref q13, .ref q14, .int 0, .int 0, .int 0, .int 0, .ref q15, .ref q16, .ref q17, .ref q18, .null, .null]))], [(q1, .inl (G.2.1 0, 24, .inl (fun _ => 0)))], [(q2, .inl (G.2.1 0, 12, .inl (fun _ => 0)))], [(q3, .inl (G.2.1 0, 16, .inl (fun _ => 0)))], [(q4, .inl (G.2.1 0, 6, .inl (fun _ => 0)))], [(q5, .inl (G.2.1 0, 24, .inl (fun _ => 0)))], [(q6, .inl (G.2.1 0, 12, .inl (fun _ => 0)))], [(q7, .inl (G.2.1 0, 16, .inl (fun _ => 0)))], [(q8, .inl (G.2.1 0, 6, .inl (fun _ => 0)))], [(q9, .inl (G.2.1 0, 92, .inl (fun _ => 0)))], [(q10, .inl (G.2.1 0, 400, .inl (fun _ => 0)))], [(q11, .inl (G.2.1 0, 90, .inl (fun _ => 0)))], [(q12, .inl (G.2.1 0, 6, .inl (fun _ => 0)))], [(q13, .inl (G.2.1 0, 6, .inl (fun _ => 0)))], [(q14, .inl (G.2.1 0, 480, .inl (fun _ => 0)))], [(q15, .inl (G.2.1 2, 16384, .inl (fun _ => 0)))], [(q16, .inl (G.2.1 2, 2, .inl (fun _ => 0)))], [(q17, .inl (G.2.1 0, 50, .inl (fun _ => 0)))], [(q18, .inl (G.2.1 0, 12, .inl (fun _ => 0)))]]) H := hP
  have hD : va_D A (List.flatten [[(q, .inr (11, [.ref q1, .ref q2, .ref q3, .ref q4, .int 0, .int 0, .int 0, .ref q5, .ref q6, .ref q7, .ref q8, .int 0, .int 0, .int 0, .int 0, .ref q9, .int 0, .int 0, .int 0, .int 0, .int 0, .ref q10, .ref q11, .int 0, .ref q12, .ref q13, .ref q14, .int 0, .int 0, .int 0, .int 0, .ref q15, .ref q16, .ref q17, .ref q18, .null, .null]))], [(q1, .inl (G.2.1 0, 24, .inl (fun _ => 0)))], [(q2, .inl (G.2.1 0, 12, .inl (fun _ => 0)))], [(q3, .inl (G.2.1 0, 16, .inl (fun _ => 0)))], [(q4, .inl (G.2.1 0, 6, .inl (fun _ => 0)))], [(q5, .inl (G.2.1 0, 24, .inl (fun _ => 0)))], [(q6, .inl (G.2.1 0, 12, .inl (fun _ => 0)))], [(q7, .inl (G.2.1 0, 16, .inl (fun _ => 0)))], [(q8, .inl (G.2.1 0, 6, .inl (fun _ => 0)))], [(q9, .inl (G.2.1 0, 92, .inl (fun _ => 0)))], [(q10, .inl (G.2.1 0, 400, .inl (fun _ => 0)))], [(q11, .inl (G.2.1 0, 90, .inl (fun _ => 0)))], [(q12, .inl (G.2.1 0, 6, .inl (fun _ => 0)))], [(q13, .inl (G.2.1 0, 6, .inl (fun _ => 0)))], [(q14, .inl (G.2.1 0, 480, .inl (fun _ => 0)))], [(q15, .inl (G.2.1 2, 16384, .inl (fun _ => 0)))], [(q16, .inl (G.2.1 2, 2, .inl (fun _ => 0)))], [(q17, .inl (G.2.1 0, 50, .inl (fun _ => 0)))], [(q18, .inl (G.2.1 0, 12, .inl (fun _ => 0)))]]) := hD
  refine lv_aload_n hx hb dX11_init_150 rfl (lv_at hl 0 rfl) ?_
  refine lv_bipush (v := 12) hx hb dX11_init_151 lb_12 ?_
  refine va_newa (atype := .int) (ty := .int) (a0 := (12, .inl (fun _ => 0))) hx hb (hts _ tw_1_87) rfl hG.1 hP hD hS hA (fun _ => rfl) (by decide) (by decide) (by decide) (Nat.le_of_ble_eq_true rfl) (Nat.le_of_ble_eq_true rfl) dX11_init_153 (fun q19 cA H hK1 hP hD hS => ?_)
  have eA := ca_eq 0 rfl hK1 (fun _ h => h)
  subst eA
  have hP : va_P G.1 vwCl (List.flatten [[(q, .inr (11, [.ref q1, .ref q2, .ref q3, .ref q4, .int 0, .int 0, .int 0, .ref q5, .ref q6, .ref q7, .ref q8, .int 0, .int 0, .int 0, .int 0, .ref q9, .int 0, .int 0, .int 0, .int 0, .int 0, .ref q10, .ref q11, .int 0, .ref q12, .ref q13, .ref q14, .int 0, .int 0, .int 0, .int 0, .ref q15, .ref q16, .ref q17, .ref q18, .null, .null]))], [(q1, .inl (G.2.1 0, 24, .inl (fun _ => 0)))], [(q2, .inl (G.2.1 0, 12, .inl (fun _ => 0)))], [(q3, .inl (G.2.1 0, 16, .inl (fun _ => 0)))], [(q4, .inl (G.2.1 0, 6, .inl (fun _ => 0)))], [(q5, .inl (G.2.1 0, 24, .inl (fun _ => 0)))], [(q6, .inl (G.2.1 0, 12, .inl (fun _ => 0)))], [(q7, .inl (G.2.1 0, 16, .inl (fun _ => 0)))], [(q8, .inl (G.2.1 0, 6, .inl (fun _ => 0)))], [(q9, .inl (G.2.1 0, 92, .inl (fun _ => 0)))], [(q10, .inl (G.2.1 0, 400, .inl (fun _ => 0)))], [(q11, .inl (G.2.1 0, 90, .inl (fun _ => 0)))], [(q12, .inl (G.2.1 0, 6, .inl (fun _ => 0)))], [(q13, .inl (G.2.1 0, 6, .inl (fun _ => 0)))], [(q14, .inl (G.2.1 0, 480, .inl (fun _ => 0)))], [(q15, .inl (G.2.1 2, 16384, .inl (fun _ => 0)))], [(q16, .inl (G.2.1 2, 2, .inl (fun _ => 0)))], [(q17, .inl (G.2.1 0, 50, .inl (fun _ => 0)))], [(q18, .inl (G.2.1 0, 12, .inl (fun _ => 0)))], [(q19, .inl (G.2.1 0, 12, .inl (fun _ => 0)))]]) H := fl_snoc hP
  have hD : va_D A (List.flatten [[(q, .inr (11, [.ref q1, .ref q2, .ref q3, .ref q4, .int 0, .int 0, .int 0, .ref q5, .ref q6, .ref q7, .ref q8, .int 0, .int 0, .int 0, .int 0, .ref q9, .int 0, .int 0, .int 0, .int 0, .int 0, .ref q10, .ref q11, .int 0, .ref q12, .ref q13, .ref q14, .int 0, .int 0, .int 0, .int 0, .ref q15, .ref q16, .ref q17, .ref q18, .null, .null]))], [(q1, .inl (G.2.1 0, 24, .inl (fun _ => 0)))], [(q2, .inl (G.2.1 0, 12, .inl (fun _ => 0)))], [(q3, .inl (G.2.1 0, 16, .inl (fun _ => 0)))], [(q4, .inl (G.2.1 0, 6, .inl (fun _ => 0)))], [(q5, .inl (G.2.1 0, 24, .inl (fun _ => 0)))], [(q6, .inl (G.2.1 0, 12, .inl (fun _ => 0)))], [(q7, .inl (G.2.1 0, 16, .inl (fun _ => 0)))], [(q8, .inl (G.2.1 0, 6, .inl (fun _ => 0)))], [(q9, .inl (G.2.1 0, 92, .inl (fun _ => 0)))], [(q10, .inl (G.2.1 0, 400, .inl (fun _ => 0)))], [(q11, .inl (G.2.1 0, 90, .inl (fun _ => 0)))], [(q12, .inl (G.2.1 0, 6, .inl (fun _ => 0)))], [(q13, .inl (G.2.1 0, 6, .inl (fun _ => 0)))], [(q14, .inl (G.2.1 0, 480, .inl (fun _ => 0)))], [(q15, .inl (G.2.1 2, 16384, .inl (fun _ => 0)))], [(q16, .inl (G.2.1 2, 2, .inl (fun _ => 0)))], [(q17, .inl (G.2.1 0, 50, .inl (fun _ => 0)))], [(q18, .inl (G.2.1 0, 12, .inl (fun _ => 0)))], [(q19, .inl (G.2.1 0, 12, .inl (fun _ => 0)))]]) := fl_snocD hD
  refine va_putF (D := G.1) (cl := vwCl) (tys := tysG G) (ci := 11) (v := .ref q19) (ty := .array .int) (C := RX11) (T := TX11) (N := 37) hx hb hts iX11 tyX11 tyX11_ok nmX11 hown hG.1 hP hD hS 0 rfl rfl 35 (Nat.le_of_ble_eq_true rfl) (hts _ tw_4_133) (fun _ h9 => h9) rfl hin rfl (by decide +kernel) rfl rfl (Nat.le_of_ble_eq_true rfl) dX11_init_155 (fun H locs hP hD hS => ?_)
  have hP : va_P G.1 vwCl (List.flatten [[(q, .inr (11, [.ref q1, .ref q2, .ref q3, .ref q4, .int 0, .int 0, .int 0, .ref q5, .ref q6, .ref q7, .ref q8, .int 0, .int 0, .int 0, .int 0, .ref q9, .int 0, .int 0, .int 0, .int 0, .int 0, .ref q10, .ref q11, .int 0, .ref q12, .ref q13, .ref q14, .int 0, .int 0, .int 0, .int 0, .ref q15, .ref q16, .ref q17, .ref q18, .ref q19, .null]))], [(q1, .inl (G.2.1 0, 24, .inl (fun _ => 0)))], [(q2, .inl (G.2.1 0, 12, .inl (fun _ => 0)))], [(q3, .inl (G.2.1 0, 16, .inl (fun _ => 0)))], [(q4, .inl (G.2.1 0, 6, .inl (fun _ => 0)))], [(q5, .inl (G.2.1 0, 24, .inl (fun _ => 0)))], [(q6, .inl (G.2.1 0, 12, .inl (fun _ => 0)))], [(q7, .inl (G.2.1 0, 16, .inl (fun _ => 0)))], [(q8, .inl (G.2.1 0, 6, .inl (fun _ => 0)))], [(q9, .inl (G.2.1 0, 92, .inl (fun _ => 0)))], [(q10, .inl (G.2.1 0, 400, .inl (fun _ => 0)))], [(q11, .inl (G.2.1 0, 90, .inl (fun _ => 0)))], [(q12, .inl (G.2.1 0, 6, .inl (fun _ => 0)))], [(q13, .inl (G.2.1 0, 6, .inl (fun _ => 0)))], [(q14, .inl (G.2.1 0, 480, .inl (fun _ => 0)))], [(q15, .inl (G.2.1 2, 16384, .inl (fun _ => 0)))], [(q16, .inl (G.2.1 2, 2, .inl (fun _ => 0)))], [(q17, .inl (G.2.1 0, 50, .inl (fun _ => 0)))], [(q18, .inl (G.2.1 0, 12, .inl (fun _ => 0)))], [(q19, .inl (G.2.1 0, 12, .inl (fun _ => 0)))]]) H := hP
  have hD : va_D A (List.flatten [[(q, .inr (11, [.ref q1, .ref q2, .ref q3, .ref q4, .int 0, .int 0, .int 0, .ref q5, .ref q6, .ref q7, .ref q8, .int 0, .int 0, .int 0, .int 0, .ref q9, .int 0, .int 0, .int 0, .int 0, .int 0, .ref q10, .ref q11, .int 0, .ref q12, .ref q13, .ref q14, .int 0, .int 0, .int 0, .int 0, .ref q15, .ref q16, .ref q17, .ref q18, .ref q19, .null]))], [(q1, .inl (G.2.1 0, 24, .inl (fun _ => 0)))], [(q2, .inl (G.2.1 0, 12, .inl (fun _ => 0)))], [(q3, .inl (G.2.1 0, 16, .inl (fun _ => 0)))], [(q4, .inl (G.2.1 0, 6, .inl (fun _ => 0)))], [(q5, .inl (G.2.1 0, 24, .inl (fun _ => 0)))], [(q6, .inl (G.2.1 0, 12, .inl (fun _ => 0)))], [(q7, .inl (G.2.1 0, 16, .inl (fun _ => 0)))], [(q8, .inl (G.2.1 0, 6, .inl (fun _ => 0)))], [(q9, .inl (G.2.1 0, 92, .inl (fun _ => 0)))], [(q10, .inl (G.2.1 0, 400, .inl (fun _ => 0)))], [(q11, .inl (G.2.1 0, 90, .inl (fun _ => 0)))], [(q12, .inl (G.2.1 0, 6, .inl (fun _ => 0)))], [(q13, .inl (G.2.1 0, 6, .inl (fun _ => 0)))], [(q14, .inl (G.2.1 0, 480, .inl (fun _ => 0)))], [(q15, .inl (G.2.1 2, 16384, .inl (fun _ => 0)))], [(q16, .inl (G.2.1 2, 2, .inl (fun _ => 0)))], [(q17, .inl (G.2.1 0, 50, .inl (fun _ => 0)))], [(q18, .inl (G.2.1 0, 12, .inl (fun _ => 0)))], [(q19, .inl (G.2.1 0, 12, .inl (fun _ => 0)))]]) := hD
  refine lv_aload_n hx hb dX11_init_158 rfl (lv_at hl 0 rfl) ?_
  refine lv_iconst (v := 2) hx hb dX11_init_159 li_2 ?_
  refine va_newa (atype := .int) (ty := .int) (a0 := (2, .inl (fun _ => 0))) hx hb (hts _ tw_1_87) rfl hG.1 hP hD hS hA (fun _ => rfl) (by decide) (by decide) (by decide) (Nat.le_of_ble_eq_true rfl) (Nat.le_of_ble_eq_true rfl) dX11_init_160 (fun q20 cA H hK1 hP hD hS => ?_)
  have eA := ca_eq 0 rfl hK1 (fun _ h => h)
  subst eA
  have hP : va_P G.1 vwCl (List.flatten [[(q, .inr (11, [.ref q1, .ref q2, .ref q3, .ref q4, .int 0, .int 0, .int 0, .ref q5, .ref q6, .ref q7, .ref q8, .int 0, .int 0, .int 0, .int 0, .ref q9, .int 0, .int 0, .int 0, .int 0, .int 0, .ref q10, .ref q11, .int 0, .ref q12, .ref q13, .ref q14, .int 0, .int 0, .int 0, .int 0, .ref q15, .ref q16, .ref q17, .ref q18, .ref q19, .null]))], [(q1, .inl (G.2.1 0, 24, .inl (fun _ => 0)))], [(q2, .inl (G.2.1 0, 12, .inl (fun _ => 0)))], [(q3, .inl (G.2.1 0, 16, .inl (fun _ => 0)))], [(q4, .inl (G.2.1 0, 6, .inl (fun _ => 0)))], [(q5, .inl (G.2.1 0, 24, .inl (fun _ => 0)))], [(q6, .inl (G.2.1 0, 12, .inl (fun _ => 0)))], [(q7, .inl (G.2.1 0, 16, .inl (fun _ => 0)))], [(q8, .inl (G.2.1 0, 6, .inl (fun _ => 0)))], [(q9, .inl (G.2.1 0, 92, .inl (fun _ => 0)))], [(q10, .inl (G.2.1 0, 400, .inl (fun _ => 0)))], [(q11, .inl (G.2.1 0, 90, .inl (fun _ => 0)))], [(q12, .inl (G.2.1 0, 6, .inl (fun _ => 0)))], [(q13, .inl (G.2.1 0, 6, .inl (fun _ => 0)))], [(q14, .inl (G.2.1 0, 480, .inl (fun _ => 0)))], [(q15, .inl (G.2.1 2, 16384, .inl (fun _ => 0)))], [(q16, .inl (G.2.1 2, 2, .inl (fun _ => 0)))], [(q17, .inl (G.2.1 0, 50, .inl (fun _ => 0)))], [(q18, .inl (G.2.1 0, 12, .inl (fun _ => 0)))], [(q19, .inl (G.2.1 0, 12, .inl (fun _ => 0)))], [(q20, .inl (G.2.1 0, 2, .inl (fun _ => 0)))]]) H := fl_snoc hP
  have hD : va_D A (List.flatten [[(q, .inr (11, [.ref q1, .ref q2, .ref q3, .ref q4, .int 0, .int 0, .int 0, .ref q5, .ref q6, .ref q7, .ref q8, .int 0, .int 0, .int 0, .int 0, .ref q9, .int 0, .int 0, .int 0, .int 0, .int 0, .ref q10, .ref q11, .int 0, .ref q12, .ref q13, .ref q14, .int 0, .int 0, .int 0, .int 0, .ref q15, .ref q16, .ref q17, .ref q18, .ref q19, .null]))], [(q1, .inl (G.2.1 0, 24, .inl (fun _ => 0)))], [(q2, .inl (G.2.1 0, 12, .inl (fun _ => 0)))], [(q3, .inl (G.2.1 0, 16, .inl (fun _ => 0)))], [(q4, .inl (G.2.1 0, 6, .inl (fun _ => 0)))], [(q5, .inl (G.2.1 0, 24, .inl (fun _ => 0)))], [(q6, .inl (G.2.1 0, 12, .inl (fun _ => 0)))], [(q7, .inl (G.2.1 0, 16, .inl (fun _ => 0)))], [(q8, .inl (G.2.1 0, 6, .inl (fun _ => 0)))], [(q9, .inl (G.2.1 0, 92, .inl (fun _ => 0)))], [(q10, .inl (G.2.1 0, 400, .inl (fun _ => 0)))], [(q11, .inl (G.2.1 0, 90, .inl (fun _ => 0)))], [(q12, .inl (G.2.1 0, 6, .inl (fun _ => 0)))], [(q13, .inl (G.2.1 0, 6, .inl (fun _ => 0)))], [(q14, .inl (G.2.1 0, 480, .inl (fun _ => 0)))], [(q15, .inl (G.2.1 2, 16384, .inl (fun _ => 0)))], [(q16, .inl (G.2.1 2, 2, .inl (fun _ => 0)))], [(q17, .inl (G.2.1 0, 50, .inl (fun _ => 0)))], [(q18, .inl (G.2.1 0, 12, .inl (fun _ => 0)))], [(q19, .inl (G.2.1 0, 12, .inl (fun _ => 0)))], [(q20, .inl (G.2.1 0, 2, .inl (fun _ => 0)))]]) := fl_snocD hD
  refine va_putF (D := G.1) (cl := vwCl) (tys := tysG G) (ci := 11) (v := .ref q20) (ty := .array .int) (C := RX11) (T := TX11) (N := 37) hx hb hts iX11 tyX11 tyX11_ok nmX11 hown hG.1 hP hD hS 0 rfl rfl 36 (Nat.le_of_ble_eq_true rfl) (hts _ tw_4_134) (fun _ h9 => h9) rfl hin rfl (by decide +kernel) rfl rfl (Nat.le_of_ble_eq_true rfl) dX11_init_162 (fun H locs hP hD hS => ?_)
  have hP : va_P G.1 vwCl (List.flatten [[(q, .inr (11, [.ref q1, .ref q2, .ref q3, .ref q4, .int 0, .int 0, .int 0, .ref q5, .ref q6, .ref q7, .ref q8, .int 0, .int 0, .int 0, .int 0, .ref q9, .int 0, .int 0, .int 0, .int 0, .int 0, .ref q10, .ref q11, .int 0, .ref q12, .ref q13, .ref q14, .int 0, .int 0, .int 0, .int 0, .ref q15, .ref q16, .ref q17, .ref q18, .ref q19, .ref q20]))], [(q1, .inl (G.2.1 0, 24, .inl (fun _ => 0)))], [(q2, .inl (G.2.1 0, 12, .inl (fun _ => 0)))], [(q3, .inl (G.2.1 0, 16, .inl (fun _ => 0)))], [(q4, .inl (G.2.1 0, 6, .inl (fun _ => 0)))], [(q5, .inl (G.2.1 0, 24, .inl (fun _ => 0)))], [(q6, .inl (G.2.1 0, 12, .inl (fun _ => 0)))], [(q7, .inl (G.2.1 0, 16, .inl (fun _ => 0)))], [(q8, .inl (G.2.1 0, 6, .inl (fun _ => 0)))], [(q9, .inl (G.2.1 0, 92, .inl (fun _ => 0)))], [(q10, .inl (G.2.1 0, 400, .inl (fun _ => 0)))], [(q11, .inl (G.2.1 0, 90, .inl (fun _ => 0)))], [(q12, .inl (G.2.1 0, 6, .inl (fun _ => 0)))], [(q13, .inl (G.2.1 0, 6, .inl (fun _ => 0)))], [(q14, .inl (G.2.1 0, 480, .inl (fun _ => 0)))], [(q15, .inl (G.2.1 2, 16384, .inl (fun _ => 0)))], [(q16, .inl (G.2.1 2, 2, .inl (fun _ => 0)))], [(q17, .inl (G.2.1 0, 50, .inl (fun _ => 0)))], [(q18, .inl (G.2.1 0, 12, .inl (fun _ => 0)))], [(q19, .inl (G.2.1 0, 12, .inl (fun _ => 0)))], [(q20, .inl (G.2.1 0, 2, .inl (fun _ => 0)))]]) H := hP
  have hD : va_D A (List.flatten [[(q, .inr (11, [.ref q1, .ref q2, .ref q3, .ref q4, .int 0, .int 0, .int 0, .ref q5, .ref q6, .ref q7, .ref q8, .int 0, .int 0, .int 0, .int 0, .ref q9, .int 0, .int 0, .int 0, .int 0, .int 0, .ref q10, .ref q11, .int 0, .ref q12, .ref q13, .ref q14, .int 0, .int 0, .int 0, .int 0, .ref q15, .ref q16, .ref q17, .ref q18, .ref q19, .ref q20]))], [(q1, .inl (G.2.1 0, 24, .inl (fun _ => 0)))], [(q2, .inl (G.2.1 0, 12, .inl (fun _ => 0)))], [(q3, .inl (G.2.1 0, 16, .inl (fun _ => 0)))], [(q4, .inl (G.2.1 0, 6, .inl (fun _ => 0)))], [(q5, .inl (G.2.1 0, 24, .inl (fun _ => 0)))], [(q6, .inl (G.2.1 0, 12, .inl (fun _ => 0)))], [(q7, .inl (G.2.1 0, 16, .inl (fun _ => 0)))], [(q8, .inl (G.2.1 0, 6, .inl (fun _ => 0)))], [(q9, .inl (G.2.1 0, 92, .inl (fun _ => 0)))], [(q10, .inl (G.2.1 0, 400, .inl (fun _ => 0)))], [(q11, .inl (G.2.1 0, 90, .inl (fun _ => 0)))], [(q12, .inl (G.2.1 0, 6, .inl (fun _ => 0)))], [(q13, .inl (G.2.1 0, 6, .inl (fun _ => 0)))], [(q14, .inl (G.2.1 0, 480, .inl (fun _ => 0)))], [(q15, .inl (G.2.1 2, 16384, .inl (fun _ => 0)))], [(q16, .inl (G.2.1 2, 2, .inl (fun _ => 0)))], [(q17, .inl (G.2.1 0, 50, .inl (fun _ => 0)))], [(q18, .inl (G.2.1 0, 12, .inl (fun _ => 0)))], [(q19, .inl (G.2.1 0, 12, .inl (fun _ => 0)))], [(q20, .inl (G.2.1 0, 2, .inl (fun _ => 0)))]]) := hD
  refine lv_aload_n hx hb dX11_init_165 rfl (lv_at hl 0 rfl) ?_
  refine lv_iconst (v := 0) hx hb dX11_init_166 li_0 ?_
  refine va_put (D := G.1) (cl := vwCl) (tys := tysG G) (ci := 11) (v := .int 0) (ty := .int) (C := RX11) (T := TX11) (N := 37) hx hb hts iX11 tyX11 tyX11_ok nmX11 hown hG.1 hP hD hS 0 rfl rfl 11 (Nat.le_of_ble_eq_true rfl) (hts _ tw_4_109) (fun _ h9 => h9) rfl (by decide +kernel) rfl rfl (Nat.le_of_ble_eq_true rfl) dX11_init_167 (fun H locs hP hD hS => ?_)
  have hP : va_P G.1 vwCl (List.flatten [[(q, .inr (11, [.ref q1, .ref q2, .ref q3, .ref q4, .int 0, .int 0, .int 0, .ref q5, .ref q6, .ref q7, .ref q8, .int 0, .int 0, .int 0, .int 0, .ref q9, .int 0, .int 0, .int 0, .int 0, .int 0, .ref q10, .ref q11, .int 0, .ref q12, .ref q13, .ref q14, .int 0, .int 0, .int 0, .int 0, .ref q15, .ref q16, .ref q17, .ref q18, .ref q19, .ref q20]))], [(q1, .inl (G.2.1 0, 24, .inl (fun _ => 0)))], [(q2, .inl (G.2.1 0, 12, .inl (fun _ => 0)))], [(q3, .inl (G.2.1 0, 16, .inl (fun _ => 0)))], [(q4, .inl (G.2.1 0, 6, .inl (fun _ => 0)))], [(q5, .inl (G.2.1 0, 24, .inl (fun _ => 0)))], [(q6, .inl (G.2.1 0, 12, .inl (fun _ => 0)))], [(q7, .inl (G.2.1 0, 16, .inl (fun _ => 0)))], [(q8, .inl (G.2.1 0, 6, .inl (fun _ => 0)))], [(q9, .inl (G.2.1 0, 92, .inl (fun _ => 0)))], [(q10, .inl (G.2.1 0, 400, .inl (fun _ => 0)))], [(q11, .inl (G.2.1 0, 90, .inl (fun _ => 0)))], [(q12, .inl (G.2.1 0, 6, .inl (fun _ => 0)))], [(q13, .inl (G.2.1 0, 6, .inl (fun _ => 0)))], [(q14, .inl (G.2.1 0, 480, .inl (fun _ => 0)))], [(q15, .inl (G.2.1 2, 16384, .inl (fun _ => 0)))], [(q16, .inl (G.2.1 2, 2, .inl (fun _ => 0)))], [(q17, .inl (G.2.1 0, 50, .inl (fun _ => 0)))], [(q18, .inl (G.2.1 0, 12, .inl (fun _ => 0)))], [(q19, .inl (G.2.1 0, 12, .inl (fun _ => 0)))], [(q20, .inl (G.2.1 0, 2, .inl (fun _ => 0)))]]) H := hP
  have hD : va_D A (List.flatten [[(q, .inr (11, [.ref q1, .ref q2, .ref q3, .ref q4, .int 0, .int 0, .int 0, .ref q5, .ref q6, .ref q7, .ref q8, .int 0, .int 0, .int 0, .int 0, .ref q9, .int 0, .int 0, .int 0, .int 0, .int 0, .ref q10, .ref q11, .int 0, .ref q12, .ref q13, .ref q14, .int 0, .int 0, .int 0, .int 0, .ref q15, .ref q16, .ref q17, .ref q18, .ref q19, .ref q20]))], [(q1, .inl (G.2.1 0, 24, .inl (fun _ => 0)))], [(q2, .inl (G.2.1 0, 12, .inl (fun _ => 0)))], [(q3, .inl (G.2.1 0, 16, .inl (fun _ => 0)))], [(q4, .inl (G.2.1 0, 6, .inl (fun _ => 0)))], [(q5, .inl (G.2.1 0, 24, .inl (fun _ => 0)))], [(q6, .inl (G.2.1 0, 12, .inl (fun _ => 0)))], [(q7, .inl (G.2.1 0, 16, .inl (fun _ => 0)))], [(q8, .inl (G.2.1 0, 6, .inl (fun _ => 0)))], [(q9, .inl (G.2.1 0, 92, .inl (fun _ => 0)))], [(q10, .inl (G.2.1 0, 400, .inl (fun _ => 0)))], [(q11, .inl (G.2.1 0, 90, .inl (fun _ => 0)))], [(q12, .inl (G.2.1 0, 6, .inl (fun _ => 0)))], [(q13, .inl (G.2.1 0, 6, .inl (fun _ => 0)))], [(q14, .inl (G.2.1 0, 480, .inl (fun _ => 0)))], [(q15, .inl (G.2.1 2, 16384, .inl (fun _ => 0)))], [(q16, .inl (G.2.1 2, 2, .inl (fun _ => 0)))], [(q17, .inl (G.2.1 0, 50, .inl (fun _ => 0)))], [(q18, .inl (G.2.1 0, 12, .inl (fun _ => 0)))], [(q19, .inl (G.2.1 0, 12, .inl (fun _ => 0)))], [(q20, .inl (G.2.1 0, 2, .inl (fun _ => 0)))]]) := hD
  exact rt_n0 K (fun _ k => match k with | 0 => q | 1 => q1 | 2 => q2 | 3 => q3 | 4 => q4 | 8 => q5 | 9 => q6 | 10 => q7 | 11 => q8 | 16 => q9 | 22 => q10 | 23 => q11 | 25 => q12 | 26 => q13 | 27 => q14 | 32 => q15 | 33 => q16 | 34 => q17 | 35 => q18 | 36 => q19 | 37 => q20 | _ => 0) rfl hP hD hS dX11_init_170
theorem cdX10_init : CallD yX10_init 0 := by decide +kernel
set_option maxHeartbeats 4000000 in
set_option maxRecDepth 100000 in
theorem nX10 (l : Launch) (G : GP) (q : Nat) : CN l G yX10_init cX10_init 5 74 627 q [(q, .inr (10, [.null, .null, .null, .null, .null, .null, .null, .null]))] (fun u => [wM (u 0 0) (u 1 0) (u 2 0) (u 6 0) (u 9 0) (u 10 0) (u 11 0) (u 12 0) (u 13 0), wT G (u 1) z0, wE G (u 2) (u 3 0) z0, wF (u 3 0) (u 4 0) (u 5 0), wB G (u 4) z0, wD G (u 5) z0, wF (u 6 0) (u 7 0) (u 8 0), wB G (u 7) z0, wD G (u 8) z0, wA G (u 9) z0, wR G (u 10) z0, wS G (u 11) z0, wP G (u 12) z0, wZ G (u 13 0) (u 14 0) (u 17 0), wL (u 14 0) (u 15 0) (u 16 0) z0, wB G (u 15) z0, wS G (u 16) z0, wL (u 17 0) (u 18 0) (u 19 0) z0, wB G (u 18) z0, wS G (u 19) z0]) := by
  refine CN.of (by decide) ?_
  intro p e s m below meth c A K hin hP hD hS ls hl
  obtain ⟨hx, hb, hr, hml, hts, hown, hlocks, hA, hG⟩ := id K
  have hP : va_P G.1 vwCl (List.flatten [[(q, .inr (10, [.null, .null, .null, .null, .null, .null, .null, .null]))]]) s.heap := hP
  have hD : va_D A (List.flatten [[(q, .inr (10, [.null, .null, .null, .null, .null, .null, .null, .null]))]]) := hD
  refine lv_aload_n hx hb dX10_init_0 rfl (lv_at hl 0 rfl) ?_
  refine W.objInit hx hb hown (hts _ tw_1_25) (hts _ tw_1_26) (hts _ tw_1_27) rfl (by rw [hml]; exact hl.1) rfl dX10_init_1 (Nat.le_of_ble_eq_true rfl) (Nat.le_of_ble_eq_true rfl) ?_
  refine W.eq (g2 := F0 m 4 ls []) rfl ?_
  refine lv_aload_n hx hb dX10_init_4 rfl (lv_at hl 0 rfl) ?_
  refine va_new (ci := 9) (fs := [.null, .int 0]) (C := RX9) (T := TX9) (N := 2) hx hb hts iX9 tyX9 tyX9_ok hown (hts _ tw_1_28) (hts _ tw_1_29) (hts _ tw_1_2) hG.1 hP hD hS hA rfl (fun j hj => by rcases (show j = 0 ∨ j = 1 by omega) with rfl | rfl <;> rfl) (Nat.le_of_ble_eq_true rfl) (Nat.le_of_ble_eq_true rfl) dX10_init_5 (fun q1 H hP hD hS => ?_)
  have hP : va_P G.1 vwCl (List.flatten [[(q, .inr (10, [.null, .null, .null, .null, .null, .null, .null, .null]))], [(q1, .inr (9, [.null, .int 0]))]]) H := fl_snoc hP
  have hD : va_D A (List.flatten [[(q, .inr (10, [.null, .null, .null, .null, .null, .null, .null, .null]))], [(q1, .inr (9, [.null, .int 0]))]]) := fl_snocD hD
  refine lv_dup hx hb dX10_init_8 rfl ?_
  refine ln_IN (pre := [[(q, .inr (10, [.null, .null, .null, .null, .null, .null, .null, .null]))]]) K (nX9 l G q1) tw_1_32 tw_1_2 tw_1_31 tw_1_30 rfl cdX9_init ⟨Nat.le_of_ble_eq_true rfl, Nat.le_of_ble_eq_true rfl⟩ hP hD hS hl.1 (Nat.le_of_ble_eq_true rfl) ⟨Nat.le_of_ble_eq_true rfl, Nat.le_of_ble_eq_true rfl⟩ dX10_init_9 (fun u1 H locs eq1 hP9 hD9 hS9 => ?_)
  clear hP hD hS
  subst eq1
  have hS := hS9
  have hP : va_P G.1 vwCl (List.flatten [[(q, .inr (10, [.null, .null, .null, .null, .null, .null, .null, .null]))], wT G (u1 0) z0]) H := hP9
  have hD : va_D A (List.flatten [[(q, .inr (10, [.null, .null, .null, .null, .null, .null, .null, .null]))], wT G (u1 0) z0]) := hD9
  refine va_putF (D := G.1) (cl := vwCl) (tys := tysG G) (ci := 10) (v := .ref (u1 0 0)) (ty := .object "ShadowCount$Text") (C := RX10) (T := TX10) (N := 8) hx hb hts iX10 tyX10 tyX10_ok nmX10 hown hG.1 hP hD hS 0 rfl rfl 0 (Nat.le_of_ble_eq_true rfl) (hts _ tw_2_41) (fun _ h9 => h9) rfl hin rfl (by decide +kernel) rfl rfl (Nat.le_of_ble_eq_true rfl) dX10_init_12 (fun H locs hP hD hS => ?_)
  have hP : va_P G.1 vwCl (List.flatten [[(q, .inr (10, [.ref (u1 0 0), .null, .null, .null, .null, .null, .null, .null]))], wT G (u1 0) z0]) H := hP
  have hD : va_D A (List.flatten [[(q, .inr (10, [.ref (u1 0 0), .null, .null, .null, .null, .null, .null, .null]))], wT G (u1 0) z0]) := hD
  refine lv_aload_n hx hb dX10_init_15 rfl (lv_at hl 0 rfl) ?_
  refine va_new (ci := 5) (fs := [.null, .null, .int 0, .int 0, .int 0]) (C := RX5) (T := TX5) (N := 5) hx hb hts iX5 tyX5 tyX5_ok hown (hts _ tw_1_45) (hts _ tw_1_46) (hts _ tw_1_3) hG.1 hP hD hS hA rfl (fun j hj => by rcases (show j = 0 ∨ j = 1 ∨ j = 2 ∨ j = 3 ∨ j = 4 by omega) with rfl | rfl | rfl | rfl | rfl <;> rfl) (Nat.le_of_ble_eq_true rfl) (Nat.le_of_ble_eq_true rfl) dX10_init_16 (fun q2 H hP hD hS => ?_)
  have hP : va_P G.1 vwCl (List.flatten [[(q, .inr (10, [.ref (u1 0 0), .null, .null, .null, .null, .null, .null, .null]))], wT G (u1 0) z0, [(q2, .inr (5, [.null, .null, .int 0, .int 0, .int 0]))]]) H := fl_snoc hP
  have hD : va_D A (List.flatten [[(q, .inr (10, [.ref (u1 0 0), .null, .null, .null, .null, .null, .null, .null]))], wT G (u1 0) z0, [(q2, .inr (5, [.null, .null, .int 0, .int 0, .int 0]))]]) := fl_snocD hD
  refine lv_dup hx hb dX10_init_19 rfl ?_
  refine ln_IN (pre := [[(q, .inr (10, [.ref (u1 0 0), .null, .null, .null, .null, .null, .null, .null]))], wT G (u1 0) z0]) K (nX5 l G q2) tw_1_49 tw_1_3 tw_1_48 tw_1_47 rfl cdX5_init ⟨Nat.le_of_ble_eq_true rfl, Nat.le_of_ble_eq_true rfl⟩ hP hD hS hl.1 (Nat.le_of_ble_eq_true rfl) ⟨Nat.le_of_ble_eq_true rfl, Nat.le_of_ble_eq_true rfl⟩ dX10_init_20 (fun u2 H locs eq2 hP9 hD9 hS9 => ?_)
  clear hP hD hS
  subst eq2
  have hS := hS9
  have hP : va_P G.1 vwCl (List.flatten [[(q, .inr (10, [.ref (u1 0 0), .null, .null, .null, .null, .null, .null, .null]))], wT G (u1 0) z0, wE G (u2 0) (u2 1 0) z0, wF (u2 1 0) (u2 2 0) (u2 3 0), wB G (u2 2) z0, wD G (u2 3) z0]) H := hP9
  have hD : va_D A (List.flatten [[(q, .inr (10, [.ref (u1 0 0), .null, .null, .null, .null, .null, .null, .null]))], wT G (u1 0) z0, wE G (u2 0) (u2 1 0) z0, wF (u2 1 0) (u2 2 0) (u2 3 0), wB G (u2 2) z0, wD G (u2 3) z0]) := hD9
  refine va_putF (D := G.1) (cl := vwCl) (tys := tysG G) (ci := 10) (v := .ref (u2 0 0)) (ty := .object "ShadowCount$Reader") (C := RX10) (T := TX10) (N := 8) hx hb hts iX10 tyX10 tyX10_ok nmX10 hown hG.1 hP hD hS 0 rfl rfl 1 (Nat.le_of_ble_eq_true rfl) (hts _ tw_2_42) (fun _ h9 => h9) rfl hin rfl (by decide +kernel) rfl rfl (Nat.le_of_ble_eq_true rfl) dX10_init_23 (fun H locs hP hD hS => ?_)
  have hP : va_P G.1 vwCl (List.flatten [[(q, .inr (10, [.ref (u1 0 0), .ref (u2 0 0), .null, .null, .null, .null, .null, .null]))], wT G (u1 0) z0, wE G (u2 0) (u2 1 0) z0, wF (u2 1 0) (u2 2 0) (u2 3 0), wB G (u2 2) z0, wD G (u2 3) z0]) H := hP
  have hD : va_D A (List.flatten [[(q, .inr (10, [.ref (u1 0 0), .ref (u2 0 0), .null, .null, .null, .null, .null, .null]))], wT G (u1 0) z0, wE G (u2 0) (u2 1 0) z0, wF (u2 1 0) (u2 2 0) (u2 3 0), wB G (u2 2) z0, wD G (u2 3) z0]) := hD
  refine lv_aload_n hx hb dX10_init_26 rfl (lv_at hl 0 rfl) ?_
  refine va_new (ci := 2) (fs := [.null, .null]) (C := RX2) (T := TX2) (N := 2) hx hb hts iX2 tyX2 tyX2_ok hown (hts _ tw_1_152) (hts _ tw_1_52) (hts _ tw_1_4) hG.1 hP hD hS hA rfl (fun j hj => by rcases (show j = 0 ∨ j = 1 by omega) with rfl | rfl <;> rfl) (Nat.le_of_ble_eq_true rfl) (Nat.le_of_ble_eq_true rfl) dX10_init_27 (fun q3 H hP hD hS => ?_)
  have hP : va_P G.1 vwCl (List.flatten [[(q, .inr (10, [.ref (u1 0 0), .ref (u2 0 0), .null, .null, .null, .null, .null, .null]))], wT G (u1 0) z0, wE G (u2 0) (u2 1 0) z0, wF (u2 1 0) (u2 2 0) (u2 3 0), wB G (u2 2) z0, wD G (u2 3) z0, [(q3, .inr (2, [.null, .null]))]]) H := fl_snoc hP
  have hD : va_D A (List.flatten [[(q, .inr (10, [.ref (u1 0 0), .ref (u2 0 0), .null, .null, .null, .null, .null, .null]))], wT G (u1 0) z0, wE G (u2 0) (u2 1 0) z0, wF (u2 1 0) (u2 2 0) (u2 3 0), wB G (u2 2) z0, wD G (u2 3) z0, [(q3, .inr (2, [.null, .null]))]]) := fl_snocD hD
  refine lv_dup hx hb dX10_init_30 rfl ?_
  refine ln_IN (pre := [[(q, .inr (10, [.ref (u1 0 0), .ref (u2 0 0), .null, .null, .null, .null, .null, .null]))], wT G (u1 0) z0, wE G (u2 0) (u2 1 0) z0, wF (u2 1 0) (u2 2 0) (u2 3 0), wB G (u2 2) z0, wD G (u2 3) z0]) K (nX2 l G q3) tw_1_55 tw_1_4 tw_1_54 tw_1_153 rfl cdX2_init ⟨Nat.le_of_ble_eq_true rfl, Nat.le_of_ble_eq_true rfl⟩ hP hD hS hl.1 (Nat.le_of_ble_eq_true rfl) ⟨Nat.le_of_ble_eq_true rfl, Nat.le_of_ble_eq_true rfl⟩ dX10_init_31 (fun u3 H locs eq3 hP9 hD9 hS9 => ?_)
  clear hP hD hS
  subst eq3
  have hS := hS9
  have hP : va_P G.1 vwCl (List.flatten [[(q, .inr (10, [.ref (u1 0 0), .ref (u2 0 0), .null, .null, .null, .null, .null, .null]))], wT G (u1 0) z0, wE G (u2 0) (u2 1 0) z0, wF (u2 1 0) (u2 2 0) (u2 3 0), wB G (u2 2) z0, wD G (u2 3) z0, wF (u3 0 0) (u3 1 0) (u3 2 0), wB G (u3 1) z0, wD G (u3 2) z0]) H := hP9
  have hD : va_D A (List.flatten [[(q, .inr (10, [.ref (u1 0 0), .ref (u2 0 0), .null, .null, .null, .null, .null, .null]))], wT G (u1 0) z0, wE G (u2 0) (u2 1 0) z0, wF (u2 1 0) (u2 2 0) (u2 3 0), wB G (u2 2) z0, wD G (u2 3) z0, wF (u3 0 0) (u3 1 0) (u3 2 0), wB G (u3 1) z0, wD G (u3 2) z0]) := hD9
  refine va_putF (D := G.1) (cl := vwCl) (tys := tysG G) (ci := 10) (v := .ref (u3 0 0)) (ty := .object "ShadowCount$Field") (C := RX10) (T := TX10) (N := 8) hx hb hts iX10 tyX10 tyX10_ok nmX10 hown hG.1 hP hD hS 0 rfl rfl 2 (Nat.le_of_ble_eq_true rfl) (hts _ tw_2_43) (fun _ h9 => h9) rfl hin rfl (by decide +kernel) rfl rfl (Nat.le_of_ble_eq_true rfl) dX10_init_34 (fun H locs hP hD hS => ?_)
  have hP : va_P G.1 vwCl (List.flatten [[(q, .inr (10, [.ref (u1 0 0), .ref (u2 0 0), .ref (u3 0 0), .null, .null, .null, .null, .null]))], wT G (u1 0) z0, wE G (u2 0) (u2 1 0) z0, wF (u2 1 0) (u2 2 0) (u2 3 0), wB G (u2 2) z0, wD G (u2 3) z0, wF (u3 0 0) (u3 1 0) (u3 2 0), wB G (u3 1) z0, wD G (u3 2) z0]) H := hP
  have hD : va_D A (List.flatten [[(q, .inr (10, [.ref (u1 0 0), .ref (u2 0 0), .ref (u3 0 0), .null, .null, .null, .null, .null]))], wT G (u1 0) z0, wE G (u2 0) (u2 1 0) z0, wF (u2 1 0) (u2 2 0) (u2 3 0), wB G (u2 2) z0, wD G (u2 3) z0, wF (u3 0 0) (u3 1 0) (u3 2 0), wB G (u3 1) z0, wD G (u3 2) z0]) := hD
  refine lv_aload_n hx hb dX10_init_37 rfl (lv_at hl 0 rfl) ?_
  refine va_new (ci := 0) (fs := [.null, .null, .null, .null, .null, .int 0, .int 0]) (C := RX0) (T := TX0) (N := 7) hx hb hts iX0 tyX0 tyX0_ok hown (hts _ tw_1_154) (hts _ tw_1_155) (hts _ tw_1_7) hG.1 hP hD hS hA rfl (fun j hj => by rcases (show j = 0 ∨ j = 1 ∨ j = 2 ∨ j = 3 ∨ j = 4 ∨ j = 5 ∨ j = 6 by omega) with rfl | rfl | rfl | rfl | rfl | rfl | rfl <;> rfl) (Nat.le_of_ble_eq_true rfl) (Nat.le_of_ble_eq_true rfl) dX10_init_38 (fun q4 H hP hD hS => ?_)
  have hP : va_P G.1 vwCl (List.flatten [[(q, .inr (10, [.ref (u1 0 0), .ref (u2 0 0), .ref (u3 0 0), .null, .null, .null, .null, .null]))], wT G (u1 0) z0, wE G (u2 0) (u2 1 0) z0, wF (u2 1 0) (u2 2 0) (u2 3 0), wB G (u2 2) z0, wD G (u2 3) z0, wF (u3 0 0) (u3 1 0) (u3 2 0), wB G (u3 1) z0, wD G (u3 2) z0, [(q4, .inr (0, [.null, .null, .null, .null, .null, .int 0, .int 0]))]]) H := fl_snoc hP
  have hD : va_D A (List.flatten [[(q, .inr (10, [.ref (u1 0 0), .ref (u2 0 0), .ref (u3 0 0), .null, .null, .null, .null, .null]))], wT G (u1 0) z0, wE G (u2 0) (u2 1 0) z0, wF (u2 1 0) (u2 2 0) (u2 3 0), wB G (u2 2) z0, wD G (u2 3) z0, wF (u3 0 0) (u3 1 0) (u3 2 0), wB G (u3 1) z0, wD G (u3 2) z0, [(q4, .inr (0, [.null, .null, .null, .null, .null, .int 0, .int 0]))]]) := fl_snocD hD
  refine lv_dup hx hb dX10_init_41 rfl ?_
  refine ln_IN (pre := [[(q, .inr (10, [.ref (u1 0 0), .ref (u2 0 0), .ref (u3 0 0), .null, .null, .null, .null, .null]))], wT G (u1 0) z0, wE G (u2 0) (u2 1 0) z0, wF (u2 1 0) (u2 2 0) (u2 3 0), wB G (u2 2) z0, wD G (u2 3) z0, wF (u3 0 0) (u3 1 0) (u3 2 0), wB G (u3 1) z0, wD G (u3 2) z0]) K (nX0 l G q4) tw_1_158 tw_1_7 tw_1_157 tw_1_156 rfl cdX0_init ⟨Nat.le_of_ble_eq_true rfl, Nat.le_of_ble_eq_true rfl⟩ hP hD hS hl.1 (Nat.le_of_ble_eq_true rfl) ⟨Nat.le_of_ble_eq_true rfl, Nat.le_of_ble_eq_true rfl⟩ dX10_init_42 (fun u4 H locs eq4 hP9 hD9 hS9 => ?_)
  clear hP hD hS
  subst eq4
  have hS := hS9
  have hP : va_P G.1 vwCl (List.flatten [[(q, .inr (10, [.ref (u1 0 0), .ref (u2 0 0), .ref (u3 0 0), .null, .null, .null, .null, .null]))], wT G (u1 0) z0, wE G (u2 0) (u2 1 0) z0, wF (u2 1 0) (u2 2 0) (u2 3 0), wB G (u2 2) z0, wD G (u2 3) z0, wF (u3 0 0) (u3 1 0) (u3 2 0), wB G (u3 1) z0, wD G (u3 2) z0, wA G (u4 0) z0]) H := hP9
  have hD : va_D A (List.flatten [[(q, .inr (10, [.ref (u1 0 0), .ref (u2 0 0), .ref (u3 0 0), .null, .null, .null, .null, .null]))], wT G (u1 0) z0, wE G (u2 0) (u2 1 0) z0, wF (u2 1 0) (u2 2 0) (u2 3 0), wB G (u2 2) z0, wD G (u2 3) z0, wF (u3 0 0) (u3 1 0) (u3 2 0), wB G (u3 1) z0, wD G (u3 2) z0, wA G (u4 0) z0]) := hD9
  refine va_putF (D := G.1) (cl := vwCl) (tys := tysG G) (ci := 10) (v := .ref (u4 0 0)) (ty := .object "ShadowCount$Acts") (C := RX10) (T := TX10) (N := 8) hx hb hts iX10 tyX10 tyX10_ok nmX10 hown hG.1 hP hD hS 0 rfl rfl 3 (Nat.le_of_ble_eq_true rfl) (hts _ tw_2_44) (fun _ h9 => h9) rfl hin rfl (by decide +kernel) rfl rfl (Nat.le_of_ble_eq_true rfl) dX10_init_45 (fun H locs hP hD hS => ?_)
  have hP : va_P G.1 vwCl (List.flatten [[(q, .inr (10, [.ref (u1 0 0), .ref (u2 0 0), .ref (u3 0 0), .ref (u4 0 0), .null, .null, .null, .null]))], wT G (u1 0) z0, wE G (u2 0) (u2 1 0) z0, wF (u2 1 0) (u2 2 0) (u2 3 0), wB G (u2 2) z0, wD G (u2 3) z0, wF (u3 0 0) (u3 1 0) (u3 2 0), wB G (u3 1) z0, wD G (u3 2) z0, wA G (u4 0) z0]) H := hP
  have hD : va_D A (List.flatten [[(q, .inr (10, [.ref (u1 0 0), .ref (u2 0 0), .ref (u3 0 0), .ref (u4 0 0), .null, .null, .null, .null]))], wT G (u1 0) z0, wE G (u2 0) (u2 1 0) z0, wF (u2 1 0) (u2 2 0) (u2 3 0), wB G (u2 2) z0, wD G (u2 3) z0, wF (u3 0 0) (u3 1 0) (u3 2 0), wB G (u3 1) z0, wD G (u3 2) z0, wA G (u4 0) z0]) := hD
  refine lv_aload_n hx hb dX10_init_48 rfl (lv_at hl 0 rfl) ?_
  refine va_new (ci := 6) (fs := [.null, .null, .null, .int 0]) (C := RX6) (T := TX6) (N := 4) hx hb hts iX6 tyX6 tyX6_ok hown (hts _ tw_1_183) (hts _ tw_1_184) (hts _ tw_1_8) hG.1 hP hD hS hA rfl (fun j hj => by rcases (show j = 0 ∨ j = 1 ∨ j = 2 ∨ j = 3 by omega) with rfl | rfl | rfl | rfl <;> rfl) (Nat.le_of_ble_eq_true rfl) (Nat.le_of_ble_eq_true rfl) dX10_init_49 (fun q5 H hP hD hS => ?_)
  have hP : va_P G.1 vwCl (List.flatten [[(q, .inr (10, [.ref (u1 0 0), .ref (u2 0 0), .ref (u3 0 0), .ref (u4 0 0), .null, .null, .null, .null]))], wT G (u1 0) z0, wE G (u2 0) (u2 1 0) z0, wF (u2 1 0) (u2 2 0) (u2 3 0), wB G (u2 2) z0, wD G (u2 3) z0, wF (u3 0 0) (u3 1 0) (u3 2 0), wB G (u3 1) z0, wD G (u3 2) z0, wA G (u4 0) z0, [(q5, .inr (6, [.null, .null, .null, .int 0]))]]) H := fl_snoc hP
  have hD : va_D A (List.flatten [[(q, .inr (10, [.ref (u1 0 0), .ref (u2 0 0), .ref (u3 0 0), .ref (u4 0 0), .null, .null, .null, .null]))], wT G (u1 0) z0, wE G (u2 0) (u2 1 0) z0, wF (u2 1 0) (u2 2 0) (u2 3 0), wB G (u2 2) z0, wD G (u2 3) z0, wF (u3 0 0) (u3 1 0) (u3 2 0), wB G (u3 1) z0, wD G (u3 2) z0, wA G (u4 0) z0, [(q5, .inr (6, [.null, .null, .null, .int 0]))]]) := fl_snocD hD
  refine lv_dup hx hb dX10_init_52 rfl ?_
  refine ln_IN (pre := [[(q, .inr (10, [.ref (u1 0 0), .ref (u2 0 0), .ref (u3 0 0), .ref (u4 0 0), .null, .null, .null, .null]))], wT G (u1 0) z0, wE G (u2 0) (u2 1 0) z0, wF (u2 1 0) (u2 2 0) (u2 3 0), wB G (u2 2) z0, wD G (u2 3) z0, wF (u3 0 0) (u3 1 0) (u3 2 0), wB G (u3 1) z0, wD G (u3 2) z0, wA G (u4 0) z0]) K (nX6 l G q5) tw_1_187 tw_1_8 tw_1_186 tw_1_185 rfl cdX6_init ⟨Nat.le_of_ble_eq_true rfl, Nat.le_of_ble_eq_true rfl⟩ hP hD hS hl.1 (Nat.le_of_ble_eq_true rfl) ⟨Nat.le_of_ble_eq_true rfl, Nat.le_of_ble_eq_true rfl⟩ dX10_init_53 (fun u5 H locs eq5 hP9 hD9 hS9 => ?_)
  clear hP hD hS
  subst eq5
  have hS := hS9
  have hP : va_P G.1 vwCl (List.flatten [[(q, .inr (10, [.ref (u1 0 0), .ref (u2 0 0), .ref (u3 0 0), .ref (u4 0 0), .null, .null, .null, .null]))], wT G (u1 0) z0, wE G (u2 0) (u2 1 0) z0, wF (u2 1 0) (u2 2 0) (u2 3 0), wB G (u2 2) z0, wD G (u2 3) z0, wF (u3 0 0) (u3 1 0) (u3 2 0), wB G (u3 1) z0, wD G (u3 2) z0, wA G (u4 0) z0, wR G (u5 0) z0]) H := hP9
  have hD : va_D A (List.flatten [[(q, .inr (10, [.ref (u1 0 0), .ref (u2 0 0), .ref (u3 0 0), .ref (u4 0 0), .null, .null, .null, .null]))], wT G (u1 0) z0, wE G (u2 0) (u2 1 0) z0, wF (u2 1 0) (u2 2 0) (u2 3 0), wB G (u2 2) z0, wD G (u2 3) z0, wF (u3 0 0) (u3 1 0) (u3 2 0), wB G (u3 1) z0, wD G (u3 2) z0, wA G (u4 0) z0, wR G (u5 0) z0]) := hD9
  refine va_putF (D := G.1) (cl := vwCl) (tys := tysG G) (ci := 10) (v := .ref (u5 0 0)) (ty := .object "ShadowCount$Runs") (C := RX10) (T := TX10) (N := 8) hx hb hts iX10 tyX10 tyX10_ok nmX10 hown hG.1 hP hD hS 0 rfl rfl 4 (Nat.le_of_ble_eq_true rfl) (hts _ tw_2_45) (fun _ h9 => h9) rfl hin rfl (by decide +kernel) rfl rfl (Nat.le_of_ble_eq_true rfl) dX10_init_56 (fun H locs hP hD hS => ?_)
  have hP : va_P G.1 vwCl (List.flatten [[(q, .inr (10, [.ref (u1 0 0), .ref (u2 0 0), .ref (u3 0 0), .ref (u4 0 0), .ref (u5 0 0), .null, .null, .null]))], wT G (u1 0) z0, wE G (u2 0) (u2 1 0) z0, wF (u2 1 0) (u2 2 0) (u2 3 0), wB G (u2 2) z0, wD G (u2 3) z0, wF (u3 0 0) (u3 1 0) (u3 2 0), wB G (u3 1) z0, wD G (u3 2) z0, wA G (u4 0) z0, wR G (u5 0) z0]) H := hP
  have hD : va_D A (List.flatten [[(q, .inr (10, [.ref (u1 0 0), .ref (u2 0 0), .ref (u3 0 0), .ref (u4 0 0), .ref (u5 0 0), .null, .null, .null]))], wT G (u1 0) z0, wE G (u2 0) (u2 1 0) z0, wF (u2 1 0) (u2 2 0) (u2 3 0), wB G (u2 2) z0, wD G (u2 3) z0, wF (u3 0 0) (u3 1 0) (u3 2 0), wB G (u3 1) z0, wD G (u3 2) z0, wA G (u4 0) z0, wR G (u5 0) z0]) := hD
  refine lv_aload_n hx hb dX10_init_59 rfl (lv_at hl 0 rfl) ?_
  refine va_new (ci := 7) (fs := [.null, .null, .int 0]) (C := RX7) (T := TX7) (N := 3) hx hb hts iX7 tyX7 tyX7_ok hown (hts _ tw_1_206) (hts _ tw_1_207) (hts _ tw_1_9) hG.1 hP hD hS hA rfl (fun j hj => by rcases (show j = 0 ∨ j = 1 ∨ j = 2 by omega) with rfl | rfl | rfl <;> rfl) (Nat.le_of_ble_eq_true rfl) (Nat.le_of_ble_eq_true rfl) dX10_init_60 (fun q6 H hP hD hS => ?_)
  have hP : va_P G.1 vwCl (List.flatten [[(q, .inr (10, [.ref (u1 0 0), .ref (u2 0 0), .ref (u3 0 0), .ref (u4 0 0), .ref (u5 0 0), .null, .null, .null]))], wT G (u1 0) z0, wE G (u2 0) (u2 1 0) z0, wF (u2 1 0) (u2 2 0) (u2 3 0), wB G (u2 2) z0, wD G (u2 3) z0, wF (u3 0 0) (u3 1 0) (u3 2 0), wB G (u3 1) z0, wD G (u3 2) z0, wA G (u4 0) z0, wR G (u5 0) z0, [(q6, .inr (7, [.null, .null, .int 0]))]]) H := fl_snoc hP
  have hD : va_D A (List.flatten [[(q, .inr (10, [.ref (u1 0 0), .ref (u2 0 0), .ref (u3 0 0), .ref (u4 0 0), .ref (u5 0 0), .null, .null, .null]))], wT G (u1 0) z0, wE G (u2 0) (u2 1 0) z0, wF (u2 1 0) (u2 2 0) (u2 3 0), wB G (u2 2) z0, wD G (u2 3) z0, wF (u3 0 0) (u3 1 0) (u3 2 0), wB G (u3 1) z0, wD G (u3 2) z0, wA G (u4 0) z0, wR G (u5 0) z0, [(q6, .inr (7, [.null, .null, .int 0]))]]) := fl_snocD hD
  refine lv_dup hx hb dX10_init_63 rfl ?_
  refine ln_IN (pre := [[(q, .inr (10, [.ref (u1 0 0), .ref (u2 0 0), .ref (u3 0 0), .ref (u4 0 0), .ref (u5 0 0), .null, .null, .null]))], wT G (u1 0) z0, wE G (u2 0) (u2 1 0) z0, wF (u2 1 0) (u2 2 0) (u2 3 0), wB G (u2 2) z0, wD G (u2 3) z0, wF (u3 0 0) (u3 1 0) (u3 2 0), wB G (u3 1) z0, wD G (u3 2) z0, wA G (u4 0) z0, wR G (u5 0) z0]) K (nX7 l G q6) tw_1_210 tw_1_9 tw_1_209 tw_1_208 rfl cdX7_init ⟨Nat.le_of_ble_eq_true rfl, Nat.le_of_ble_eq_true rfl⟩ hP hD hS hl.1 (Nat.le_of_ble_eq_true rfl) ⟨Nat.le_of_ble_eq_true rfl, Nat.le_of_ble_eq_true rfl⟩ dX10_init_64 (fun u6 H locs eq6 hP9 hD9 hS9 => ?_)
  clear hP hD hS
  subst eq6
  have hS := hS9
  have hP : va_P G.1 vwCl (List.flatten [[(q, .inr (10, [.ref (u1 0 0), .ref (u2 0 0), .ref (u3 0 0), .ref (u4 0 0), .ref (u5 0 0), .null, .null, .null]))], wT G (u1 0) z0, wE G (u2 0) (u2 1 0) z0, wF (u2 1 0) (u2 2 0) (u2 3 0), wB G (u2 2) z0, wD G (u2 3) z0, wF (u3 0 0) (u3 1 0) (u3 2 0), wB G (u3 1) z0, wD G (u3 2) z0, wA G (u4 0) z0, wR G (u5 0) z0, wS G (u6 0) z0]) H := hP9
  have hD : va_D A (List.flatten [[(q, .inr (10, [.ref (u1 0 0), .ref (u2 0 0), .ref (u3 0 0), .ref (u4 0 0), .ref (u5 0 0), .null, .null, .null]))], wT G (u1 0) z0, wE G (u2 0) (u2 1 0) z0, wF (u2 1 0) (u2 2 0) (u2 3 0), wB G (u2 2) z0, wD G (u2 3) z0, wF (u3 0 0) (u3 1 0) (u3 2 0), wB G (u3 1) z0, wD G (u3 2) z0, wA G (u4 0) z0, wR G (u5 0) z0, wS G (u6 0) z0]) := hD9
  refine va_putF (D := G.1) (cl := vwCl) (tys := tysG G) (ci := 10) (v := .ref (u6 0 0)) (ty := .object "ShadowCount$Sights") (C := RX10) (T := TX10) (N := 8) hx hb hts iX10 tyX10 tyX10_ok nmX10 hown hG.1 hP hD hS 0 rfl rfl 5 (Nat.le_of_ble_eq_true rfl) (hts _ tw_2_46) (fun _ h9 => h9) rfl hin rfl (by decide +kernel) rfl rfl (Nat.le_of_ble_eq_true rfl) dX10_init_67 (fun H locs hP hD hS => ?_)
  have hP : va_P G.1 vwCl (List.flatten [[(q, .inr (10, [.ref (u1 0 0), .ref (u2 0 0), .ref (u3 0 0), .ref (u4 0 0), .ref (u5 0 0), .ref (u6 0 0), .null, .null]))], wT G (u1 0) z0, wE G (u2 0) (u2 1 0) z0, wF (u2 1 0) (u2 2 0) (u2 3 0), wB G (u2 2) z0, wD G (u2 3) z0, wF (u3 0 0) (u3 1 0) (u3 2 0), wB G (u3 1) z0, wD G (u3 2) z0, wA G (u4 0) z0, wR G (u5 0) z0, wS G (u6 0) z0]) H := hP
  have hD : va_D A (List.flatten [[(q, .inr (10, [.ref (u1 0 0), .ref (u2 0 0), .ref (u3 0 0), .ref (u4 0 0), .ref (u5 0 0), .ref (u6 0 0), .null, .null]))], wT G (u1 0) z0, wE G (u2 0) (u2 1 0) z0, wF (u2 1 0) (u2 2 0) (u2 3 0), wB G (u2 2) z0, wD G (u2 3) z0, wF (u3 0 0) (u3 1 0) (u3 2 0), wB G (u3 1) z0, wD G (u3 2) z0, wA G (u4 0) z0, wR G (u5 0) z0, wS G (u6 0) z0]) := hD
  refine lv_aload_n hx hb dX10_init_70 rfl (lv_at hl 0 rfl) ?_
  refine va_new (ci := 3) (fs := [.null, .null, .null, .null, .null, .null, .null, .long 0]) (C := RX3) (T := TX3) (N := 8) hx hb hts iX3 tyX3 tyX3_ok hown (hts _ tw_1_226) (hts _ tw_1_227) (hts _ tw_1_10) hG.1 hP hD hS hA rfl (fun j hj => by rcases (show j = 0 ∨ j = 1 ∨ j = 2 ∨ j = 3 ∨ j = 4 ∨ j = 5 ∨ j = 6 ∨ j = 7 by omega) with rfl | rfl | rfl | rfl | rfl | rfl | rfl | rfl <;> rfl) (Nat.le_of_ble_eq_true rfl) (Nat.le_of_ble_eq_true rfl) dX10_init_71 (fun q7 H hP hD hS => ?_)
  have hP : va_P G.1 vwCl (List.flatten [[(q, .inr (10, [.ref (u1 0 0), .ref (u2 0 0), .ref (u3 0 0), .ref (u4 0 0), .ref (u5 0 0), .ref (u6 0 0), .null, .null]))], wT G (u1 0) z0, wE G (u2 0) (u2 1 0) z0, wF (u2 1 0) (u2 2 0) (u2 3 0), wB G (u2 2) z0, wD G (u2 3) z0, wF (u3 0 0) (u3 1 0) (u3 2 0), wB G (u3 1) z0, wD G (u3 2) z0, wA G (u4 0) z0, wR G (u5 0) z0, wS G (u6 0) z0, [(q7, .inr (3, [.null, .null, .null, .null, .null, .null, .null, .long 0]))]]) H := fl_snoc hP
  have hD : va_D A (List.flatten [[(q, .inr (10, [.ref (u1 0 0), .ref (u2 0 0), .ref (u3 0 0), .ref (u4 0 0), .ref (u5 0 0), .ref (u6 0 0), .null, .null]))], wT G (u1 0) z0, wE G (u2 0) (u2 1 0) z0, wF (u2 1 0) (u2 2 0) (u2 3 0), wB G (u2 2) z0, wD G (u2 3) z0, wF (u3 0 0) (u3 1 0) (u3 2 0), wB G (u3 1) z0, wD G (u3 2) z0, wA G (u4 0) z0, wR G (u5 0) z0, wS G (u6 0) z0, [(q7, .inr (3, [.null, .null, .null, .null, .null, .null, .null, .long 0]))]]) := fl_snocD hD
  refine lv_dup hx hb dX10_init_74 rfl ?_
  refine ln_IN (pre := [[(q, .inr (10, [.ref (u1 0 0), .ref (u2 0 0), .ref (u3 0 0), .ref (u4 0 0), .ref (u5 0 0), .ref (u6 0 0), .null, .null]))], wT G (u1 0) z0, wE G (u2 0) (u2 1 0) z0, wF (u2 1 0) (u2 2 0) (u2 3 0), wB G (u2 2) z0, wD G (u2 3) z0, wF (u3 0 0) (u3 1 0) (u3 2 0), wB G (u3 1) z0, wD G (u3 2) z0, wA G (u4 0) z0, wR G (u5 0) z0, wS G (u6 0) z0]) K (nX3 l G q7) tw_1_230 tw_1_10 tw_1_229 tw_1_228 rfl cdX3_init ⟨Nat.le_of_ble_eq_true rfl, Nat.le_of_ble_eq_true rfl⟩ hP hD hS hl.1 (Nat.le_of_ble_eq_true rfl) ⟨Nat.le_of_ble_eq_true rfl, Nat.le_of_ble_eq_true rfl⟩ dX10_init_75 (fun u7 H locs eq7 hP9 hD9 hS9 => ?_)
  clear hP hD hS
  subst eq7
  have hS := hS9
  have hP : va_P G.1 vwCl (List.flatten [[(q, .inr (10, [.ref (u1 0 0), .ref (u2 0 0), .ref (u3 0 0), .ref (u4 0 0), .ref (u5 0 0), .ref (u6 0 0), .null, .null]))], wT G (u1 0) z0, wE G (u2 0) (u2 1 0) z0, wF (u2 1 0) (u2 2 0) (u2 3 0), wB G (u2 2) z0, wD G (u2 3) z0, wF (u3 0 0) (u3 1 0) (u3 2 0), wB G (u3 1) z0, wD G (u3 2) z0, wA G (u4 0) z0, wR G (u5 0) z0, wS G (u6 0) z0, wP G (u7 0) z0]) H := hP9
  have hD : va_D A (List.flatten [[(q, .inr (10, [.ref (u1 0 0), .ref (u2 0 0), .ref (u3 0 0), .ref (u4 0 0), .ref (u5 0 0), .ref (u6 0 0), .null, .null]))], wT G (u1 0) z0, wE G (u2 0) (u2 1 0) z0, wF (u2 1 0) (u2 2 0) (u2 3 0), wB G (u2 2) z0, wD G (u2 3) z0, wF (u3 0 0) (u3 1 0) (u3 2 0), wB G (u3 1) z0, wD G (u3 2) z0, wA G (u4 0) z0, wR G (u5 0) z0, wS G (u6 0) z0, wP G (u7 0) z0]) := hD9
  refine va_putF (D := G.1) (cl := vwCl) (tys := tysG G) (ci := 10) (v := .ref (u7 0 0)) (ty := .object "ShadowCount$Fits") (C := RX10) (T := TX10) (N := 8) hx hb hts iX10 tyX10 tyX10_ok nmX10 hown hG.1 hP hD hS 0 rfl rfl 6 (Nat.le_of_ble_eq_true rfl) (hts _ tw_2_47) (fun _ h9 => h9) rfl hin rfl (by decide +kernel) rfl rfl (Nat.le_of_ble_eq_true rfl) dX10_init_78 (fun H locs hP hD hS => ?_)
  have hP : va_P G.1 vwCl (List.flatten [[(q, .inr (10, [.ref (u1 0 0), .ref (u2 0 0), .ref (u3 0 0), .ref (u4 0 0), .ref (u5 0 0), .ref (u6 0 0), .ref (u7 0 0), .null]))], wT G (u1 0) z0, wE G (u2 0) (u2 1 0) z0, wF (u2 1 0) (u2 2 0) (u2 3 0), wB G (u2 2) z0, wD G (u2 3) z0, wF (u3 0 0) (u3 1 0) (u3 2 0), wB G (u3 1) z0, wD G (u3 2) z0, wA G (u4 0) z0, wR G (u5 0) z0, wS G (u6 0) z0, wP G (u7 0) z0]) H := hP
  have hD : va_D A (List.flatten [[(q, .inr (10, [.ref (u1 0 0), .ref (u2 0 0), .ref (u3 0 0), .ref (u4 0 0), .ref (u5 0 0), .ref (u6 0 0), .ref (u7 0 0), .null]))], wT G (u1 0) z0, wE G (u2 0) (u2 1 0) z0, wF (u2 1 0) (u2 2 0) (u2 3 0), wB G (u2 2) z0, wD G (u2 3) z0, wF (u3 0 0) (u3 1 0) (u3 2 0), wB G (u3 1) z0, wD G (u3 2) z0, wA G (u4 0) z0, wR G (u5 0) z0, wS G (u6 0) z0, wP G (u7 0) z0]) := hD
  refine lv_aload_n hx hb dX10_init_81 rfl (lv_at hl 0 rfl) ?_
  refine lv_iconst (v := 2) hx hb dX10_init_82 li_2 ?_
  refine va_newq (C := RX8) (N' := 2) hx hb hown (hts _ tw_2_18) hG.2.2.2.2.2.2.2.1 hG.1 hP hD hS hA (by decide) (by decide) (by decide) (Nat.le_of_ble_eq_true rfl) (Nat.le_of_ble_eq_true rfl) dX10_init_83 (fun q8 cA H hK1 hP hD hS => ?_)
  have eA := ca_eqO 5 rfl hK1
  subst eA
  have hP : va_P G.1 vwCl (List.flatten [[(q, .inr (10, [.ref (u1 0 0), .ref (u2 0 0), .ref (u3 0 0), .ref (u4 0 0), .ref (u5 0 0), .ref (u6 0 0), .ref (u7 0 0), .null]))], wT G (u1 0) z0, wE G (u2 0) (u2 1 0) z0, wF (u2 1 0) (u2 2 0) (u2 3 0), wB G (u2 2) z0, wD G (u2 3) z0, wF (u3 0 0) (u3 1 0) (u3 2 0), wB G (u3 1) z0, wD G (u3 2) z0, wA G (u4 0) z0, wR G (u5 0) z0, wS G (u6 0) z0, wP G (u7 0) z0, [(q8, .inl (G.2.1 5, 2, .inr (.inr (.inr (.inr (fun _ => none))))))]]) H := fl_snoc hP
  have hD : va_D A (List.flatten [[(q, .inr (10, [.ref (u1 0 0), .ref (u2 0 0), .ref (u3 0 0), .ref (u4 0 0), .ref (u5 0 0), .ref (u6 0 0), .ref (u7 0 0), .null]))], wT G (u1 0) z0, wE G (u2 0) (u2 1 0) z0, wF (u2 1 0) (u2 2 0) (u2 3 0), wB G (u2 2) z0, wD G (u2 3) z0, wF (u3 0 0) (u3 1 0) (u3 2 0), wB G (u3 1) z0, wD G (u3 2) z0, wA G (u4 0) z0, wR G (u5 0) z0, wS G (u6 0) z0, wP G (u7 0) z0, [(q8, .inl (G.2.1 5, 2, .inr (.inr (.inr (.inr (fun _ => none))))))]]) := fl_snocD hD
  refine lv_dup hx hb dX10_init_86 rfl ?_
  refine lv_iconst (v := 0) hx hb dX10_init_87 li_0 ?_
  refine va_new (ci := 8) (fs := [.null, .null, .int 0]) (C := RX8) (T := TX8) (N := 3) hx hb hts iX8 tyX8 tyX8_ok hown (hts _ tw_2_18) (hts _ tw_2_20) (hts _ tw_1_11) hG.1 hP hD hS hA rfl (fun j hj => by rcases (show j = 0 ∨ j = 1 ∨ j = 2 by omega) with rfl | rfl | rfl <;> rfl) (Nat.le_of_ble_eq_true rfl) (Nat.le_of_ble_eq_true rfl) dX10_init_88 (fun q9 H hP hD hS => ?_)
  have hP : va_P G.1 vwCl (List.flatten [[(q, .inr (10, [.ref (u1 0 0), .ref (u2 0 0), .ref (u3 0 0), .ref (u4 0 0), .ref (u5 0 0), .ref (u6 0 0), .ref (u7 0 0), .null]))], wT G (u1 0) z0, wE G (u2 0) (u2 1 0) z0, wF (u2 1 0) (u2 2 0) (u2 3 0), wB G (u2 2) z0, wD G (u2 3) z0, wF (u3 0 0) (u3 1 0) (u3 2 0), wB G (u3 1) z0, wD G (u3 2) z0, wA G (u4 0) z0, wR G (u5 0) z0, wS G (u6 0) z0, wP G (u7 0) z0, [(q8, .inl (G.2.1 5, 2, .inr (.inr (.inr (.inr (fun _ => none))))))], [(q9, .inr (8, [.null, .null, .int 0]))]]) H := fl_snoc hP
  have hD : va_D A (List.flatten [[(q, .inr (10, [.ref (u1 0 0), .ref (u2 0 0), .ref (u3 0 0), .ref (u4 0 0), .ref (u5 0 0), .ref (u6 0 0), .ref (u7 0 0), .null]))], wT G (u1 0) z0, wE G (u2 0) (u2 1 0) z0, wF (u2 1 0) (u2 2 0) (u2 3 0), wB G (u2 2) z0, wD G (u2 3) z0, wF (u3 0 0) (u3 1 0) (u3 2 0), wB G (u3 1) z0, wD G (u3 2) z0, wA G (u4 0) z0, wR G (u5 0) z0, wS G (u6 0) z0, wP G (u7 0) z0, [(q8, .inl (G.2.1 5, 2, .inr (.inr (.inr (.inr (fun _ => none))))))], [(q9, .inr (8, [.null, .null, .int 0]))]]) := fl_snocD hD
  refine lv_dup hx hb dX10_init_91 rfl ?_
  refine ln_IN (pre := [[(q, .inr (10, [.ref (u1 0 0), .ref (u2 0 0), .ref (u3 0 0), .ref (u4 0 0), .ref (u5 0 0), .ref (u6 0 0), .ref (u7 0 0), .null]))], wT G (u1 0) z0, wE G (u2 0) (u2 1 0) z0, wF (u2 1 0) (u2 2 0) (u2 3 0), wB G (u2 2) z0, wD G (u2 3) z0, wF (u3 0 0) (u3 1 0) (u3 2 0), wB G (u3 1) z0, wD G (u3 2) z0, wA G (u4 0) z0, wR G (u5 0) z0, wS G (u6 0) z0, wP G (u7 0) z0, [(q8, .inl (G.2.1 5, 2, .inr (.inr (.inr (.inr (fun _ => none))))))]]) K (nX8 l G q9) tw_2_23 tw_1_11 tw_2_22 tw_2_21 rfl cdX8_init ⟨Nat.le_of_ble_eq_true rfl, Nat.le_of_ble_eq_true rfl⟩ hP hD hS hl.1 (Nat.le_of_ble_eq_true rfl) ⟨Nat.le_of_ble_eq_true rfl, Nat.le_of_ble_eq_true rfl⟩ dX10_init_92 (fun u9 H locs eq9 hP9 hD9 hS9 => ?_)
  clear hP hD hS
  subst eq9
  have hS := hS9
  have hP : va_P G.1 vwCl (List.flatten [[(q, .inr (10, [.ref (u1 0 0), .ref (u2 0 0), .ref (u3 0 0), .ref (u4 0 0), .ref (u5 0 0), .ref (u6 0 0), .ref (u7 0 0), .null]))], wT G (u1 0) z0, wE G (u2 0) (u2 1 0) z0, wF (u2 1 0) (u2 2 0) (u2 3 0), wB G (u2 2) z0, wD G (u2 3) z0, wF (u3 0 0) (u3 1 0) (u3 2 0), wB G (u3 1) z0, wD G (u3 2) z0, wA G (u4 0) z0, wR G (u5 0) z0, wS G (u6 0) z0, wP G (u7 0) z0, [(q8, .inl (G.2.1 5, 2, .inr (.inr (.inr (.inr (fun _ => none))))))], wL (u9 0 0) (u9 1 0) (u9 2 0) z0, wB G (u9 1) z0, wS G (u9 2) z0]) H := hP9
  have hD : va_D A (List.flatten [[(q, .inr (10, [.ref (u1 0 0), .ref (u2 0 0), .ref (u3 0 0), .ref (u4 0 0), .ref (u5 0 0), .ref (u6 0 0), .ref (u7 0 0), .null]))], wT G (u1 0) z0, wE G (u2 0) (u2 1 0) z0, wF (u2 1 0) (u2 2 0) (u2 3 0), wB G (u2 2) z0, wD G (u2 3) z0, wF (u3 0 0) (u3 1 0) (u3 2 0), wB G (u3 1) z0, wD G (u3 2) z0, wA G (u4 0) z0, wR G (u5 0) z0, wS G (u6 0) z0, wP G (u7 0) z0, [(q8, .inl (G.2.1 5, 2, .inr (.inr (.inr (.inr (fun _ => none))))))], wL (u9 0 0) (u9 1 0) (u9 2 0) z0, wB G (u9 1) z0, wS G (u9 2) z0]) := hD9
  refine va_astq hx hb hG.1 hP hD hS 58 5 59 8 rfl rfl rfl rfl (vpi (by decide)) dX10_init_95 (fun H locs hP hD hS => ?_)
  have hP : va_P G.1 vwCl (List.flatten [[(q, .inr (10, [.ref (u1 0 0), .ref (u2 0 0), .ref (u3 0 0), .ref (u4 0 0), .ref (u5 0 0), .ref (u6 0 0), .ref (u7 0 0), .null]))], wT G (u1 0) z0, wE G (u2 0) (u2 1 0) z0, wF (u2 1 0) (u2 2 0) (u2 3 0), wB G (u2 2) z0, wD G (u2 3) z0, wF (u3 0 0) (u3 1 0) (u3 2 0), wB G (u3 1) z0, wD G (u3 2) z0, wA G (u4 0) z0, wR G (u5 0) z0, wS G (u6 0) z0, wP G (u7 0) z0, [(q8, .inl (G.2.1 5, 2, .inr (.inr (.inr (.inr (va_up (fun _ => none) 0 (some (u9 0 0))))))))], wL (u9 0 0) (u9 1 0) (u9 2 0) z0, wB G (u9 1) z0, wS G (u9 2) z0]) H := hP
  have hD : va_D A (List.flatten [[(q, .inr (10, [.ref (u1 0 0), .ref (u2 0 0), .ref (u3 0 0), .ref (u4 0 0), .ref (u5 0 0), .ref (u6 0 0), .ref (u7 0 0), .null]))], wT G (u1 0) z0, wE G (u2 0) (u2 1 0) z0, wF (u2 1 0) (u2 2 0) (u2 3 0), wB G (u2 2) z0, wD G (u2 3) z0, wF (u3 0 0) (u3 1 0) (u3 2 0), wB G (u3 1) z0, wD G (u3 2) z0, wA G (u4 0) z0, wR G (u5 0) z0, wS G (u6 0) z0, wP G (u7 0) z0, [(q8, .inl (G.2.1 5, 2, .inr (.inr (.inr (.inr (va_up (fun _ => none) 0 (some (u9 0 0))))))))], wL (u9 0 0) (u9 1 0) (u9 2 0) z0, wB G (u9 1) z0, wS G (u9 2) z0]) := hD
  refine lv_dup hx hb dX10_init_96 rfl ?_
  refine lv_iconst (v := 1) hx hb dX10_init_97 li_1 ?_
  refine va_new (ci := 8) (fs := [.null, .null, .int 0]) (C := RX8) (T := TX8) (N := 3) hx hb hts iX8 tyX8 tyX8_ok hown (hts _ tw_2_18) (hts _ tw_2_20) (hts _ tw_1_11) hG.1 hP hD hS hA rfl (fun j hj => by rcases (show j = 0 ∨ j = 1 ∨ j = 2 by omega) with rfl | rfl | rfl <;> rfl) (Nat.le_of_ble_eq_true rfl) (Nat.le_of_ble_eq_true rfl) dX10_init_98 (fun q10 H hP hD hS => ?_)
  have hP : va_P G.1 vwCl (List.flatten [[(q, .inr (10, [.ref (u1 0 0), .ref (u2 0 0), .ref (u3 0 0), .ref (u4 0 0), .ref (u5 0 0), .ref (u6 0 0), .ref (u7 0 0), .null]))], wT G (u1 0) z0, wE G (u2 0) (u2 1 0) z0, wF (u2 1 0) (u2 2 0) (u2 3 0), wB G (u2 2) z0, wD G (u2 3) z0, wF (u3 0 0) (u3 1 0) (u3 2 0), wB G (u3 1) z0, wD G (u3 2) z0, wA G (u4 0) z0, wR G (u5 0) z0, wS G (u6 0) z0, wP G (u7 0) z0, [(q8, .inl (G.2.1 5, 2, .inr (.inr (.inr (.inr (va_up (fun _ => none) 0 (some (u9 0 0))))))))], wL (u9 0 0) (u9 1 0) (u9 2 0) z0, wB G (u9 1) z0, wS G (u9 2) z0, [(q10, .inr (8, [.null, .null, .int 0]))]]) H := fl_snoc hP
  have hD : va_D A (List.flatten [[(q, .inr (10, [.ref (u1 0 0), .ref (u2 0 0), .ref (u3 0 0), .ref (u4 0 0), .ref (u5 0 0), .ref (u6 0 0), .ref (u7 0 0), .null]))], wT G (u1 0) z0, wE G (u2 0) (u2 1 0) z0, wF (u2 1 0) (u2 2 0) (u2 3 0), wB G (u2 2) z0, wD G (u2 3) z0, wF (u3 0 0) (u3 1 0) (u3 2 0), wB G (u3 1) z0, wD G (u3 2) z0, wA G (u4 0) z0, wR G (u5 0) z0, wS G (u6 0) z0, wP G (u7 0) z0, [(q8, .inl (G.2.1 5, 2, .inr (.inr (.inr (.inr (va_up (fun _ => none) 0 (some (u9 0 0))))))))], wL (u9 0 0) (u9 1 0) (u9 2 0) z0, wB G (u9 1) z0, wS G (u9 2) z0, [(q10, .inr (8, [.null, .null, .int 0]))]]) := fl_snocD hD
  refine lv_dup hx hb dX10_init_101 rfl ?_
  refine ln_IN (pre := [[(q, .inr (10, [.ref (u1 0 0), .ref (u2 0 0), .ref (u3 0 0), .ref (u4 0 0), .ref (u5 0 0), .ref (u6 0 0), .ref (u7 0 0), .null]))], wT G (u1 0) z0, wE G (u2 0) (u2 1 0) z0, wF (u2 1 0) (u2 2 0) (u2 3 0), wB G (u2 2) z0, wD G (u2 3) z0, wF (u3 0 0) (u3 1 0) (u3 2 0), wB G (u3 1) z0, wD G (u3 2) z0, wA G (u4 0) z0, wR G (u5 0) z0, wS G (u6 0) z0, wP G (u7 0) z0, [(q8, .inl (G.2.1 5, 2, .inr (.inr (.inr (.inr (va_up (fun _ => none) 0 (some (u9 0 0))))))))], wL (u9 0 0) (u9 1 0) (u9 2 0) z0, wB G (u9 1) z0, wS G (u9 2) z0]) K (nX8 l G q10) tw_2_23 tw_1_11 tw_2_22 tw_2_21 rfl cdX8_init ⟨Nat.le_of_ble_eq_true rfl, Nat.le_of_ble_eq_true rfl⟩ hP hD hS hl.1 (Nat.le_of_ble_eq_true rfl) ⟨Nat.le_of_ble_eq_true rfl, Nat.le_of_ble_eq_true rfl⟩ dX10_init_102 (fun u10 H locs eq10 hP9 hD9 hS9 => ?_)
  clear hP hD hS
  subst eq10
  have hS := hS9
  have hP : va_P G.1 vwCl (List.flatten [[(q, .inr (10, [.ref (u1 0 0), .ref (u2 0 0), .ref (u3 0 0), .ref (u4 0 0), .ref (u5 0 0), .ref (u6 0 0), .ref (u7 0 0), .null]))], wT G (u1 0) z0, wE G (u2 0) (u2 1 0) z0, wF (u2 1 0) (u2 2 0) (u2 3 0), wB G (u2 2) z0, wD G (u2 3) z0, wF (u3 0 0) (u3 1 0) (u3 2 0), wB G (u3 1) z0, wD G (u3 2) z0, wA G (u4 0) z0, wR G (u5 0) z0, wS G (u6 0) z0, wP G (u7 0) z0, [(q8, .inl (G.2.1 5, 2, .inr (.inr (.inr (.inr (va_up (fun _ => none) 0 (some (u9 0 0))))))))], wL (u9 0 0) (u9 1 0) (u9 2 0) z0, wB G (u9 1) z0, wS G (u9 2) z0, wL (u10 0 0) (u10 1 0) (u10 2 0) z0, wB G (u10 1) z0, wS G (u10 2) z0]) H := hP9
  have hD : va_D A (List.flatten [[(q, .inr (10, [.ref (u1 0 0), .ref (u2 0 0), .ref (u3 0 0), .ref (u4 0 0), .ref (u5 0 0), .ref (u6 0 0), .ref (u7 0 0), .null]))], wT G (u1 0) z0, wE G (u2 0) (u2 1 0) z0, wF (u2 1 0) (u2 2 0) (u2 3 0), wB G (u2 2) z0, wD G (u2 3) z0, wF (u3 0 0) (u3 1 0) (u3 2 0), wB G (u3 1) z0, wD G (u3 2) z0, wA G (u4 0) z0, wR G (u5 0) z0, wS G (u6 0) z0, wP G (u7 0) z0, [(q8, .inl (G.2.1 5, 2, .inr (.inr (.inr (.inr (va_up (fun _ => none) 0 (some (u9 0 0))))))))], wL (u9 0 0) (u9 1 0) (u9 2 0) z0, wB G (u9 1) z0, wS G (u9 2) z0, wL (u10 0 0) (u10 1 0) (u10 2 0) z0, wB G (u10 1) z0, wS G (u10 2) z0]) := hD9
  refine va_astq hx hb hG.1 hP hD hS 58 5 67 8 rfl rfl rfl rfl (vpi (by decide)) dX10_init_105 (fun H locs hP hD hS => ?_)
  have hP : va_P G.1 vwCl (List.flatten [[(q, .inr (10, [.ref (u1 0 0), .ref (u2 0 0), .ref (u3 0 0), .ref (u4 0 0), .ref (u5 0 0), .ref (u6 0 0), .ref (u7 0 0), .null]))], wT G (u1 0) z0, wE G (u2 0) (u2 1 0) z0, wF (u2 1 0) (u2 2 0) (u2 3 0), wB G (u2 2) z0, wD G (u2 3) z0, wF (u3 0 0) (u3 1 0) (u3 2 0), wB G (u3 1) z0, wD G (u3 2) z0, wA G (u4 0) z0, wR G (u5 0) z0, wS G (u6 0) z0, wP G (u7 0) z0, [(q8, .inl (G.2.1 5, 2, .inr (.inr (.inr (.inr (va_up (va_up (fun _ => none) 0 (some (u9 0 0))) 1 (some (u10 0 0))))))))], wL (u9 0 0) (u9 1 0) (u9 2 0) z0, wB G (u9 1) z0, wS G (u9 2) z0, wL (u10 0 0) (u10 1 0) (u10 2 0) z0, wB G (u10 1) z0, wS G (u10 2) z0]) H := hP
  have hD : va_D A (List.flatten [[(q, .inr (10, [.ref (u1 0 0), .ref (u2 0 0), .ref (u3 0 0), .ref (u4 0 0), .ref (u5 0 0), .ref (u6 0 0), .ref (u7 0 0), .null]))], wT G (u1 0) z0, wE G (u2 0) (u2 1 0) z0, wF (u2 1 0) (u2 2 0) (u2 3 0), wB G (u2 2) z0, wD G (u2 3) z0, wF (u3 0 0) (u3 1 0) (u3 2 0), wB G (u3 1) z0, wD G (u3 2) z0, wA G (u4 0) z0, wR G (u5 0) z0, wS G (u6 0) z0, wP G (u7 0) z0, [(q8, .inl (G.2.1 5, 2, .inr (.inr (.inr (.inr (va_up (va_up (fun _ => none) 0 (some (u9 0 0))) 1 (some (u10 0 0))))))))], wL (u9 0 0) (u9 1 0) (u9 2 0) z0, wB G (u9 1) z0, wS G (u9 2) z0, wL (u10 0 0) (u10 1 0) (u10 2 0) z0, wB G (u10 1) z0, wS G (u10 2) z0]) := hD
  refine va_putF (D := G.1) (cl := vwCl) (tys := tysG G) (ci := 10) (v := .ref q8) (ty := .array (.object "ShadowCount$Slot")) (C := RX10) (T := TX10) (N := 8) hx hb hts iX10 tyX10 tyX10_ok nmX10 hown hG.1 hP hD hS 0 rfl rfl 7 (Nat.le_of_ble_eq_true rfl) (hts _ tw_2_48) (fun _ h9 => h9) rfl hin rfl (by decide +kernel) rfl rfl (Nat.le_of_ble_eq_true rfl) dX10_init_106 (fun H locs hP hD hS => ?_)
  have hP : va_P G.1 vwCl (List.flatten [[(q, .inr (10, [.ref (u1 0 0), .ref (u2 0 0), .ref (u3 0 0), .ref (u4 0 0), .ref (u5 0 0), .ref (u6 0 0), .ref (u7 0 0), .ref q8]))], wT G (u1 0) z0, wE G (u2 0) (u2 1 0) z0, wF (u2 1 0) (u2 2 0) (u2 3 0), wB G (u2 2) z0, wD G (u2 3) z0, wF (u3 0 0) (u3 1 0) (u3 2 0), wB G (u3 1) z0, wD G (u3 2) z0, wA G (u4 0) z0, wR G (u5 0) z0, wS G (u6 0) z0, wP G (u7 0) z0, [(q8, .inl (G.2.1 5, 2, .inr (.inr (.inr (.inr (va_up (va_up (fun _ => none) 0 (some (u9 0 0))) 1 (some (u10 0 0))))))))], wL (u9 0 0) (u9 1 0) (u9 2 0) z0, wB G (u9 1) z0, wS G (u9 2) z0, wL (u10 0 0) (u10 1 0) (u10 2 0) z0, wB G (u10 1) z0, wS G (u10 2) z0]) H := hP
  have hD : va_D A (List.flatten [[(q, .inr (10, [.ref (u1 0 0), .ref (u2 0 0), .ref (u3 0 0), .ref (u4 0 0), .ref (u5 0 0), .ref (u6 0 0), .ref (u7 0 0), .ref q8]))], wT G (u1 0) z0, wE G (u2 0) (u2 1 0) z0, wF (u2 1 0) (u2 2 0) (u2 3 0), wB G (u2 2) z0, wD G (u2 3) z0, wF (u3 0 0) (u3 1 0) (u3 2 0), wB G (u3 1) z0, wD G (u3 2) z0, wA G (u4 0) z0, wR G (u5 0) z0, wS G (u6 0) z0, wP G (u7 0) z0, [(q8, .inl (G.2.1 5, 2, .inr (.inr (.inr (.inr (va_up (va_up (fun _ => none) 0 (some (u9 0 0))) 1 (some (u10 0 0))))))))], wL (u9 0 0) (u9 1 0) (u9 2 0) z0, wB G (u9 1) z0, wS G (u9 2) z0, wL (u10 0 0) (u10 1 0) (u10 2 0) z0, wB G (u10 1) z0, wS G (u10 2) z0]) := hD
  exact rt_n0 K (fun i => match i with | 0 => fun _ => q | 1 => u1 0 | 2 => u2 0 | 3 => u2 1 | 4 => u2 2 | 5 => u2 3 | 6 => u3 0 | 7 => u3 1 | 8 => u3 2 | 9 => u4 0 | 10 => u5 0 | 11 => u6 0 | 12 => u7 0 | 13 => fun _ => q8 | 14 => u9 0 | 15 => u9 1 | 16 => u9 2 | 17 => u10 0 | 18 => u10 1 | _ => u10 2) rfl hP hD hS dX10_init_109
end
