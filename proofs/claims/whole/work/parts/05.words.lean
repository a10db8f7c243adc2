theorem lb_6 : (Int8.ofInt (6)).toInt32 = (6 : Int32) := by decide
theorem lb_8 : (Int8.ofInt (8)).toInt32 = (8 : Int32) := by decide
theorem lb_9 : (Int8.ofInt (9)).toInt32 = (9 : Int32) := by decide
theorem lb_10 : (Int8.ofInt (10)).toInt32 = (10 : Int32) := by decide
theorem lb_16 : (Int8.ofInt (16)).toInt32 = (16 : Int32) := by decide
theorem li_m1 : Int32.ofInt (-1) = (-1 : Int32) := by decide
theorem li_0 : Int32.ofInt (0) = (0 : Int32) := by decide
theorem li_1 : Int32.ofInt (1) = (1 : Int32) := by decide
theorem li_4 : Int32.ofInt (4) = (4 : Int32) := by decide
theorem tw_1_1 : Cond.initialized RX10 ∈ TB := tb_of (tb_1 1 rfl) rfl
theorem tw_1_15 : Cond.initialized RJ9 ∈ TB := tb_of (tb_1 15 rfl) rfl
theorem tw_1_5 : Cond.initialized RX1 ∈ TB := tb_of (tb_1 5 rfl) rfl
theorem tw_1_63 : Cond.fieldLink RX1 9 "ShadowCount$Bodies" "kind" "[I" ∈ TB := tb_of (tb_1 63 rfl) rfl
theorem tw_1_66 : Cond.fieldLink RX1 13 "ShadowCount$Bodies" "x" "[I" ∈ TB := tb_of (tb_1 66 rfl) rfl
theorem tw_1_70 : Cond.fieldLink RX1 16 "ShadowCount$Bodies" "y" "[I" ∈ TB := tb_of (tb_1 70 rfl) rfl
theorem tw_1_74 : Cond.fieldLink RX1 19 "ShadowCount$Bodies" "size" "I" ∈ TB := tb_of (tb_1 74 rfl) rfl
theorem tw_2_132 : Cond.static Lib.Math.max.name ∈ TB := tb_of (tb_2 132 rfl) rfl
theorem tw_2_133 : Cond.code Lib.Math.max.name Lib.Math.max.code 2 (some .int) ∈ TB := tb_of (tb_2 133 rfl) rfl
theorem tw_2_135 : Cond.static Lib.Math.min.name ∈ TB := tb_of (tb_2 135 rfl) rfl
theorem tw_2_136 : Cond.code Lib.Math.min.name Lib.Math.min.code 2 (some .int) ∈ TB := tb_of (tb_2 136 rfl) rfl
theorem tw_2_193 : Cond.static yX10_isBelow ∈ TB := tb_of (tb_2 193 rfl) rfl
theorem tw_2_194 : Cond.code yX10_isBelow cX10_isBelow 2 (some .boolean) ∈ TB := tb_of (tb_2 194 rfl) rfl
theorem tw_2_222 : Cond.methodLink RX10 128 yX10_isBelow ∈ TB := tb_of (tb_2 222 rfl) rfl
theorem tw_2_239 : Cond.methodLinkNest RX1 23 yX10_isBelow RX10 ∈ TN := tn_of (tb_2 239 rfl) rfl
theorem tw_3_0 : Cond.methodLink RX1 39 yX1_renumber ∈ TB := tb_of (tb_3 0 rfl) rfl
theorem tw_3_1 : Cond.instanceMethod yX1_renumber ∈ TB := tb_of (tb_3 1 rfl) rfl
theorem tw_3_100 : Cond.methodLink RX1 43 yX1_has ∈ TB := tb_of (tb_3 100 rfl) rfl
theorem tw_3_116 : Cond.methodLink RX10 166 yX10_lengthOfShadow ∈ TB := tb_of (tb_3 116 rfl) rfl
theorem tw_3_117 : Cond.static yX10_lengthOfShadow ∈ TB := tb_of (tb_3 117 rfl) rfl
theorem tw_3_118 : Cond.code yX10_lengthOfShadow cX10_lengthOfShadow 2 (some .int) ∈ TB := tb_of (tb_3 118 rfl) rfl
theorem tw_3_131 : Cond.methodLink RX10 251 yX10_columnBits ∈ TB := tb_of (tb_3 131 rfl) rfl
theorem tw_3_132 : Cond.static yX10_columnBits ∈ TB := tb_of (tb_3 132 rfl) rfl
theorem tw_3_133 : Cond.code yX10_columnBits cX10_columnBits 4 (some .int) ∈ TB := tb_of (tb_3 133 rfl) rfl
theorem tw_3_134 : Cond.methodLink RX10 254 Lib.Math.max.name ∈ TB := tb_of (tb_3 134 rfl) rfl
theorem tw_3_135 : Cond.methodLink RX10 257 Lib.Math.min.name ∈ TB := tb_of (tb_3 135 rfl) rfl
theorem tw_3_2 : Cond.selects RX1 yX1_renumber yX1_renumber ∈ TB := tb_of (tb_3 2 rfl) rfl
theorem tw_3_207 : Cond.methodLink RX1 35 yX1_heads ∈ TB := tb_of (tb_3 207 rfl) rfl
theorem tw_3_3 : Cond.code yX1_renumber cX1_renumber 3 none ∈ TB := tb_of (tb_3 3 rfl) rfl
theorem tw_3_48 : Cond.instanceMethod yX1_has ∈ TB := tb_of (tb_3 48 rfl) rfl
theorem tw_3_49 : Cond.selects RX1 yX1_has yX1_has ∈ TB := tb_of (tb_3 49 rfl) rfl
theorem tw_3_50 : Cond.code yX1_has cX1_has 2 (some .boolean) ∈ TB := tb_of (tb_3 50 rfl) rfl
theorem tw_3_55 : Cond.fieldLinkNest RX1 29 "ShadowCount" "HEIGHT_OF_KIND" "[I" RX10 ∈ TN := tn_of (tb_3 55 rfl) rfl
theorem tw_3_58 : Cond.instanceMethod yX1_heads ∈ TB := tb_of (tb_3 58 rfl) rfl
theorem tw_3_59 : Cond.selects RX1 yX1_heads yX1_heads ∈ TB := tb_of (tb_3 59 rfl) rfl
theorem tw_3_60 : Cond.code yX1_heads cX1_heads 2 (some .int) ∈ TB := tb_of (tb_3 60 rfl) rfl
theorem tw_3_61 : Cond.fieldLinkNest RX1 32 "ShadowCount" "HEADS_OF_KIND" "[I" RX10 ∈ TN := tn_of (tb_3 61 rfl) rfl
theorem tw_3_89 : Cond.methodLink RX10 150 Lib.Math.abs.name ∈ TB := tb_of (tb_3 89 rfl) rfl
theorem tw_3_90 : Cond.static Lib.Math.abs.name ∈ TB := tb_of (tb_3 90 rfl) rfl
theorem tw_3_91 : Cond.code Lib.Math.abs.name Lib.Math.abs.code 1 (some .int) ∈ TB := tb_of (tb_3 91 rfl) rfl
