def fX11_in (F : Nat)  (x1 : Int64) (x2 : Int64) (x3 : Int64) : Option (Int32) :=
  if (lg_cmp x1 x2) < 0 then
    some (0 : Int32)
  else
    if 0 < (lg_cmp x1 x3) then
      some (0 : Int32)
    else
      some (1 : Int32)
theorem cdX11_in : CallD yX11_in 3 := by decide +kernel
set_option maxHeartbeats 4000000 in
set_option maxRecDepth 100000 in
theorem mX11_in (l : Launch) (G : GP) (F : Nat)   (x1 : Int64) (x2 : Int64) (x3 : Int64) {r : Int32} (h : fX11_in F  x1 x2 x3 = some r) : CC l G yX11_in cX11_in 6 (some .boolean) 1 [.long x1, .long x2, .long x3] (List.flatten ([] : List va_W)) (List.flatten ([] : List va_W)) (some (.int r)) := by
  refine CC.of (by decide) (Nat.le_of_ble_eq_true rfl) ?_
  intro p e s m below meth c A K hP hD hS ls hl
  obtain ⟨hx, hb, hr, hml, hts, hown, hlocks, hA, hG⟩ := id K
  have hl : lv_has ls 6 [(0, .long x1), (2, .long x2), (4, .long x3)] := hl
  unfold fX11_in at h
  refine lv_lload_n hx hb dX11_in_0 rfl (lv_at hl 0 rfl) ?_
  refine lv_lload_n hx hb dX11_in_1 rfl (lv_at hl 1 rfl) ?_
  refine W.lcmp hx hb dX11_in_2 ?_
  refine lv_if_lt (tgt := 17) hx hb dX11_in_3 (by decide) (fun c1 => ?_) (fun c1 => ?_)
  · have h := if_t c1 h
    refine lv_iconst (v := 0) hx hb dX11_in_17 li_0 ?_
    cases h
    exact rt_z K (Or.inl rfl) hP hD hS dX11_in_18
  · have h := if_f c1 h
    refine lv_lload_n hx hb dX11_in_6 rfl (lv_at hl 0 rfl) ?_
    refine lv_lload hx hb dX11_in_7 (lv_at hl 2 rfl) ?_
    refine W.lcmp hx hb dX11_in_9 ?_
    refine lv_if_gt (tgt := 17) hx hb dX11_in_10 (by decide) (fun c2 => ?_) (fun c2 => ?_)
    · have h := if_t c2 h
      refine lv_iconst (v := 0) hx hb dX11_in_17 li_0 ?_
      cases h
      exact rt_z K (Or.inl rfl) hP hD hS dX11_in_18
    · have h := if_f c2 h
      refine lv_iconst (v := 1) hx hb dX11_in_13 li_1 ?_
      refine lv_goto (tgt := 18) hx hb dX11_in_14 (by decide) ?_
      cases h
      exact rt_z K (Or.inr rfl) hP hD hS dX11_in_18
def fX11_bits (F : Nat)  (x1 : Int32) (x2 : Int32) : Option (Int32) :=
  some (((1 : Int32) <<< ((x2 + (1 : Int32)) &&& 31)) - ((1 : Int32) <<< (x1 &&& 31)))
theorem cdX11_bits : CallD yX11_bits 2 := by decide +kernel
set_option maxHeartbeats 4000000 in
set_option maxRecDepth 100000 in
theorem mX11_bits (l : Launch) (G : GP) (F : Nat)   (x1 : Int32) (x2 : Int32) {r : Int32} (h : fX11_bits F  x1 x2 = some r) : CC l G yX11_bits cX11_bits 2 (some .int) 1 [.int x1, .int x2] (List.flatten ([] : List va_W)) (List.flatten ([] : List va_W)) (some (.int r)) := by
  refine CC.of (by decide) (Nat.le_of_ble_eq_true rfl) ?_
  intro p e s m below meth c A K hP hD hS ls hl
  obtain ⟨hx, hb, hr, hml, hts, hown, hlocks, hA, hG⟩ := id K
  have hl : lv_has ls 2 [(0, .int x1), (1, .int x2)] := hl
  unfold fX11_bits at h
  refine lv_iconst (v := 1) hx hb dX11_bits_0 li_1 ?_
  refine lv_iload_n hx hb dX11_bits_1 rfl (lv_at hl 1 rfl) ?_
  refine lv_iconst (v := 1) hx hb dX11_bits_2 li_1 ?_
  refine lv_iadd hx hb dX11_bits_3 ?_
  refine lv_ishl hx hb dX11_bits_4 ?_
  refine lv_iconst (v := 1) hx hb dX11_bits_5 li_1 ?_
  refine lv_iload_n hx hb dX11_bits_6 rfl (lv_at hl 0 rfl) ?_
  refine lv_ishl hx hb dX11_bits_7 ?_
  refine lv_isub hx hb dX11_bits_8 ?_
  cases h
  exact rt_i K hP hD hS dX11_bits_9
def fX11_kindOf (F : Nat)  (x1 : Int32) : Option (Int32) :=
  if x1 = 97 then
    some (4 : Int32)
  else
  if x1 = 99 then
    some (1 : Int32)
  else
  if x1 = 107 then
    some (2 : Int32)
  else
  if x1 = 109 then
    some (0 : Int32)
  else
  if x1 = 115 then
    some (3 : Int32)
  else
  if x1 = 116 then
    some (5 : Int32)
  else
    some (-9 : Int32)
theorem cdX11_kindOf : CallD yX11_kindOf 1 := by decide +kernel
set_option maxHeartbeats 4000000 in
set_option maxRecDepth 100000 in
theorem mX11_kindOf (l : Launch) (G : GP) (F : Nat)   (x1 : Int32) {r : Int32} (h : fX11_kindOf F  x1 = some r) : CC l G yX11_kindOf cX11_kindOf 1 (some .int) 1 [.int x1] (List.flatten ([] : List va_W)) (List.flatten ([] : List va_W)) (some (.int r)) := by
  refine CC.of (by decide) (Nat.le_of_ble_eq_true rfl) ?_
  intro p e s m below meth c A K hP hD hS ls hl
  obtain ⟨hx, hb, hr, hml, hts, hown, hlocks, hA, hG⟩ := id K
  have hl : lv_has ls 1 [(0, .int x1)] := hl
  unfold fX11_kindOf at h
  refine lv_iload_n hx hb dX11_kindOf_0 rfl (lv_at hl 0 rfl) ?_
  by_cases c1 : x1 = 97
  · have h := if_t c1 h
    refine lv_tableIn (off := 103) (tgt := 104) hx hb dX11_kindOf_1 (by rw [c1]; decide) (by rw [c1]; decide) (by rw [c1] <;> rfl) (by decide) ?_
    refine lv_iconst (v := 4) hx hb dX11_kindOf_104 li_4 ?_
    cases h
    exact rt_i K hP hD hS dX11_kindOf_105
  have h := if_f c1 h
  by_cases c2 : x1 = 99
  · have h := if_t c2 h
    refine lv_tableIn (off := 97) (tgt := 98) hx hb dX11_kindOf_1 (by rw [c2]; decide) (by rw [c2]; decide) (by rw [c2] <;> rfl) (by decide) ?_
    refine lv_iconst (v := 1) hx hb dX11_kindOf_98 li_1 ?_
    cases h
    exact rt_i K hP hD hS dX11_kindOf_99
  have h := if_f c2 h
  by_cases c3 : x1 = 107
  · have h := if_t c3 h
    refine lv_tableIn (off := 99) (tgt := 100) hx hb dX11_kindOf_1 (by rw [c3]; decide) (by rw [c3]; decide) (by rw [c3] <;> rfl) (by decide) ?_
    refine lv_iconst (v := 2) hx hb dX11_kindOf_100 li_2 ?_
    cases h
    exact rt_i K hP hD hS dX11_kindOf_101
  have h := if_f c3 h
  by_cases c4 : x1 = 109
  · have h := if_t c4 h
    refine lv_tableIn (off := 95) (tgt := 96) hx hb dX11_kindOf_1 (by rw [c4]; decide) (by rw [c4]; decide) (by rw [c4] <;> rfl) (by decide) ?_
    refine lv_iconst (v := 0) hx hb dX11_kindOf_96 li_0 ?_
    cases h
    exact rt_i K hP hD hS dX11_kindOf_97
  have h := if_f c4 h
  by_cases c5 : x1 = 115
  · have h := if_t c5 h
    refine lv_tableIn (off := 101) (tgt := 102) hx hb dX11_kindOf_1 (by rw [c5]; decide) (by rw [c5]; decide) (by rw [c5] <;> rfl) (by decide) ?_
    refine lv_iconst (v := 3) hx hb dX11_kindOf_102 li_3 ?_
    cases h
    exact rt_i K hP hD hS dX11_kindOf_103
  have h := if_f c5 h
  by_cases c6 : x1 = 116
  · have h := if_t c6 h
    refine lv_tableIn (off := 105) (tgt := 106) hx hb dX11_kindOf_1 (by rw [c6]; decide) (by rw [c6]; decide) (by rw [c6] <;> rfl) (by decide) ?_
    refine lv_iconst (v := 5) hx hb dX11_kindOf_106 li_5 ?_
    cases h
    exact rt_i K hP hD hS dX11_kindOf_107
  have h := if_f c6 h
  by_cases hout : x1.toInt < 97 ∨ 116 < x1.toInt
  · refine lv_tableOut (tgt := 108) hx hb dX11_kindOf_1 hout (by decide) ?_
    refine lv_bipush (v := -9) hx hb dX11_kindOf_108 lb_m9 ?_
    cases h
    exact rt_i K hP hD hS dX11_kindOf_110
  have hin9 : x1.toInt = 98 ∨ x1.toInt = 100 ∨ x1.toInt = 101 ∨ x1.toInt = 102 ∨ x1.toInt = 103 ∨ x1.toInt = 104 ∨ x1.toInt = 105 ∨ x1.toInt = 106 ∨ x1.toInt = 108 ∨ x1.toInt = 110 ∨ x1.toInt = 111 ∨ x1.toInt = 112 ∨ x1.toInt = 113 ∨ x1.toInt = 114 := by have n0 := lv_neT c1 (a := 97) rfl; have n1 := lv_neT c2 (a := 99) rfl; have n2 := lv_neT c3 (a := 107) rfl; have n3 := lv_neT c4 (a := 109) rfl; have n4 := lv_neT c5 (a := 115) rfl; have n5 := lv_neT c6 (a := 116) rfl; omega
  rcases hin9 with e9 | hin9
  · refine lv_tableIn (off := 107) (tgt := 108) hx hb dX11_kindOf_1 (by rw [e9]; decide) (by rw [e9]; decide) (by rw [e9] <;> rfl) (by decide) ?_
    refine lv_bipush (v := -9) hx hb dX11_kindOf_108 lb_m9 ?_
    cases h
    exact rt_i K hP hD hS dX11_kindOf_110
  rcases hin9 with e9 | hin9
  · refine lv_tableIn (off := 107) (tgt := 108) hx hb dX11_kindOf_1 (by rw [e9]; decide) (by rw [e9]; decide) (by rw [e9] <;> rfl) (by decide) ?_
    refine lv_bipush (v := -9) hx hb dX11_kindOf_108 lb_m9 ?_
    cases h
    exact rt_i K hP hD hS dX11_kindOf_110
  rcases hin9 with e9 | hin9
  · refine lv_tableIn (off := 107) (tgt := 108) hx hb dX11_kindOf_1 (by rw [e9]; decide) (by rw [e9]; decide) (by rw [e9] <;> rfl) (by decide) ?_
    refine lv_bipush (v := -9) hx hb dX11_kindOf_108 lb_m9 ?_
    cases h
    exact rt_i K hP hD hS dX11_kindOf_110
  rcases hin9 with e9 | hin9
  · refine lv_tableIn (off := 107) (tgt := 108) hx hb dX11_kindOf_1 (by rw [e9]; decide) (by rw [e9]; decide) (by rw [e9] <;> rfl) (by decide) ?_
    refine lv_bipush (v := -9) hx hb dX11_kindOf_108 lb_m9 ?_
    cases h
    exact rt_i K hP hD hS dX11_kindOf_110
  rcases hin9 with e9 | hin9
  · refine lv_tableIn (off := 107) (tgt := 108) hx hb dX11_kindOf_1 (by rw [e9]; decide) (by rw [e9]; decide) (by rw [e9] <;> rfl) (by decide) ?_
    refine lv_bipush (v := -9) hx hb dX11_kindOf_108 lb_m9 ?_
    cases h
    exact rt_i K hP hD hS dX11_kindOf_110
  rcases hin9 with e9 | hin9
  · refine lv_tableIn (off := 107) (tgt := 108) hx hb dX11_kindOf_1 (by rw [e9]; decide) (by rw [e9]; decide) (by rw [e9] <;> rfl) (by decide) ?_
    refine lv_bipush (v := -9) hx hb dX11_kindOf_108 lb_m9 ?_
    cases h
    exact rt_i K hP hD hS dX11_kindOf_110
  rcases hin9 with e9 | hin9
  · refine lv_tableIn (off := 107) (tgt := 108) hx hb dX11_kindOf_1 (by rw [e9]; decide) (by rw [e9]; decide) (by rw [e9] <;> rfl) (by decide) ?_
    refine lv_bipush (v := -9) hx hb dX11_kindOf_108 lb_m9 ?_
    cases h
    exact rt_i K hP hD hS dX11_kindOf_110
  rcases hin9 with e9 | hin9
  · refine lv_tableIn (off := 107) (tgt := 108) hx hb dX11_kindOf_1 (by rw [e9]; decide) (by rw [e9]; decide) (by rw [e9] <;> rfl) (by decide) ?_
    refine lv_bipush (v := -9) hx hb dX11_kindOf_108 lb_m9 ?_
    cases h
    exact rt_i K hP hD hS dX11_kindOf_110
  rcases hin9 with e9 | hin9
  · refine lv_tableIn (off := 107) (tgt := 108) hx hb dX11_kindOf_1 (by rw [e9]; decide) (by rw [e9]; decide) (by rw [e9] <;> rfl) (by decide) ?_
    refine lv_bipush (v := -9) hx hb dX11_kindOf_108 lb_m9 ?_
    cases h
    exact rt_i K hP hD hS dX11_kindOf_110
  rcases hin9 with e9 | hin9
  · refine lv_tableIn (off := 107) (tgt := 108) hx hb dX11_kindOf_1 (by rw [e9]; decide) (by rw [e9]; decide) (by rw [e9] <;> rfl) (by decide) ?_
    refine lv_bipush (v := -9) hx hb dX11_kindOf_108 lb_m9 ?_
    cases h
    exact rt_i K hP hD hS dX11_kindOf_110
  rcases hin9 with e9 | hin9
  · refine lv_tableIn (off := 107) (tgt := 108) hx hb dX11_kindOf_1 (by rw [e9]; decide) (by rw [e9]; decide) (by rw [e9] <;> rfl) (by decide) ?_
    refine lv_bipush (v := -9) hx hb dX11_kindOf_108 lb_m9 ?_
    cases h
    exact rt_i K hP hD hS dX11_kindOf_110
  rcases hin9 with e9 | hin9
  · refine lv_tableIn (off := 107) (tgt := 108) hx hb dX11_kindOf_1 (by rw [e9]; decide) (by rw [e9]; decide) (by rw [e9] <;> rfl) (by decide) ?_
    refine lv_bipush (v := -9) hx hb dX11_kindOf_108 lb_m9 ?_
    cases h
    exact rt_i K hP hD hS dX11_kindOf_110
  rcases hin9 with e9 | hin9
  · refine lv_tableIn (off := 107) (tgt := 108) hx hb dX11_kindOf_1 (by rw [e9]; decide) (by rw [e9]; decide) (by rw [e9] <;> rfl) (by decide) ?_
    refine lv_bipush (v := -9) hx hb dX11_kindOf_108 lb_m9 ?_
    cases h
    exact rt_i K hP hD hS dX11_kindOf_110
  have e9 := hin9
  refine lv_tableIn (off := 107) (tgt := 108) hx hb dX11_kindOf_1 (by rw [e9]; decide) (by rw [e9]; decide) (by rw [e9] <;> rfl) (by decide) ?_
  refine lv_bipush (v := -9) hx hb dX11_kindOf_108 lb_m9 ?_
  cases h
  exact rt_i K hP hD hS dX11_kindOf_110
def fX11_highOf (F : Nat)  (x1 : Int32) : Option (Int32) :=
  if x1 = (1 : Int32) then
    some (3 : Int32)
  else
    if x1 = (2 : Int32) then
      some (3 : Int32)
    else
      if x1 = (4 : Int32) then
        some (4 : Int32)
      else
        some (6 : Int32)
theorem cdX11_highOf : CallD yX11_highOf 1 := by decide +kernel
set_option maxHeartbeats 4000000 in
set_option maxRecDepth 100000 in
theorem mX11_highOf (l : Launch) (G : GP) (F : Nat)   (x1 : Int32) {r : Int32} (h : fX11_highOf F  x1 = some r) : CC l G yX11_highOf cX11_highOf 1 (some .int) 1 [.int x1] (List.flatten ([] : List va_W)) (List.flatten ([] : List va_W)) (some (.int r)) := by
  refine CC.of (by decide) (Nat.le_of_ble_eq_true rfl) ?_
  intro p e s m below meth c A K hP hD hS ls hl
  obtain ⟨hx, hb, hr, hml, hts, hown, hlocks, hA, hG⟩ := id K
  have hl : lv_has ls 1 [(0, .int x1)] := hl
  unfold fX11_highOf at h
  refine lv_iload_n hx hb dX11_highOf_0 rfl (lv_at hl 0 rfl) ?_
  refine lv_iconst (v := 1) hx hb dX11_highOf_1 li_1 ?_
  refine lv_icmp_eq (tgt := 10) hx hb dX11_highOf_2 (by decide) (fun c1 => ?_) (fun c1 => ?_)
  · have h := if_t c1 h
    refine lv_iconst (v := 3) hx hb dX11_highOf_10 li_3 ?_
    refine lv_goto (tgt := 25) hx hb dX11_highOf_11 (by decide) ?_
    cases h
    exact rt_i K hP hD hS dX11_highOf_25
  · have h := if_f c1 h
    refine lv_iload_n hx hb dX11_highOf_5 rfl (lv_at hl 0 rfl) ?_
    refine lv_iconst (v := 2) hx hb dX11_highOf_6 li_2 ?_
    refine lv_icmp_ne (tgt := 14) hx hb dX11_highOf_7 (by decide) (fun c2 => ?_) (fun c2 => ?_)
    · have h := if_f c2 h
      refine lv_iload_n hx hb dX11_highOf_14 rfl (lv_at hl 0 rfl) ?_
      refine lv_iconst (v := 4) hx hb dX11_highOf_15 li_4 ?_
      refine lv_icmp_ne (tgt := 23) hx hb dX11_highOf_16 (by decide) (fun c3 => ?_) (fun c3 => ?_)
      · have h := if_f c3 h
        refine lv_bipush (v := 6) hx hb dX11_highOf_23 lb_6 ?_
        cases h
        exact rt_i K hP hD hS dX11_highOf_25
      · have h := if_t c3 h
        refine lv_iconst (v := 4) hx hb dX11_highOf_19 li_4 ?_
        refine lv_goto (tgt := 25) hx hb dX11_highOf_20 (by decide) ?_
        cases h
        exact rt_i K hP hD hS dX11_highOf_25
    · have h := if_t c2 h
      refine lv_iconst (v := 3) hx hb dX11_highOf_10 li_3 ?_
      refine lv_goto (tgt := 25) hx hb dX11_highOf_11 (by decide) ?_
      cases h
      exact rt_i K hP hD hS dX11_highOf_25
def fX11_manyOf (F : Nat)  (x1 : Int32) : Option (Int32) :=
  if x1 = (3 : Int32) then
    some (0 : Int32)
  else
    if x1 ≤ (3 : Int32) then
      some (1 : Int32)
    else
      some (2 : Int32)
theorem cdX11_manyOf : CallD yX11_manyOf 1 := by decide +kernel
set_option maxHeartbeats 4000000 in
set_option maxRecDepth 100000 in
theorem mX11_manyOf (l : Launch) (G : GP) (F : Nat)   (x1 : Int32) {r : Int32} (h : fX11_manyOf F  x1 = some r) : CC l G yX11_manyOf cX11_manyOf 1 (some .int) 1 [.int x1] (List.flatten ([] : List va_W)) (List.flatten ([] : List va_W)) (some (.int r)) := by
  refine CC.of (by decide) (Nat.le_of_ble_eq_true rfl) ?_
  intro p e s m below meth c A K hP hD hS ls hl
  obtain ⟨hx, hb, hr, hml, hts, hown, hlocks, hA, hG⟩ := id K
  have hl : lv_has ls 1 [(0, .int x1)] := hl
  unfold fX11_manyOf at h
  refine lv_iload_n hx hb dX11_manyOf_0 rfl (lv_at hl 0 rfl) ?_
  refine lv_iconst (v := 3) hx hb dX11_manyOf_1 li_3 ?_
  refine lv_icmp_ne (tgt := 9) hx hb dX11_manyOf_2 (by decide) (fun c1 => ?_) (fun c1 => ?_)
  · have h := if_f c1 h
    refine lv_iload_n hx hb dX11_manyOf_9 rfl (lv_at hl 0 rfl) ?_
    refine lv_iconst (v := 3) hx hb dX11_manyOf_10 li_3 ?_
    refine lv_icmp_le (tgt := 18) hx hb dX11_manyOf_11 (by decide) (fun c2 => ?_) (fun c2 => ?_)
    · have h := if_t c2 h
      refine lv_iconst (v := 1) hx hb dX11_manyOf_18 li_1 ?_
      cases h
      exact rt_i K hP hD hS dX11_manyOf_19
    · have h := if_f c2 h
      refine lv_iconst (v := 2) hx hb dX11_manyOf_14 li_2 ?_
      refine lv_goto (tgt := 19) hx hb dX11_manyOf_15 (by decide) ?_
      cases h
      exact rt_i K hP hD hS dX11_manyOf_19
  · have h := if_t c1 h
    refine lv_iconst (v := 0) hx hb dX11_manyOf_5 li_0 ?_
    refine lv_goto (tgt := 19) hx hb dX11_manyOf_6 (by decide) ?_
    cases h
    exact rt_i K hP hD hS dX11_manyOf_19
def fX11_without (F : Nat)  (x1 : Int32) : Option (Int32) :=
  if 0 ≤ x1 then
    some x1
  else
    some (-x1)
theorem cdX11_without : CallD yX11_without 1 := by decide +kernel
set_option maxHeartbeats 4000000 in
set_option maxRecDepth 100000 in
theorem mX11_without (l : Launch) (G : GP) (F : Nat)   (x1 : Int32) {r : Int32} (h : fX11_without F  x1 = some r) : CC l G yX11_without cX11_without 1 (some .int) 1 [.int x1] (List.flatten ([] : List va_W)) (List.flatten ([] : List va_W)) (some (.int r)) := by
  refine CC.of (by decide) (Nat.le_of_ble_eq_true rfl) ?_
  intro p e s m below meth c A K hP hD hS ls hl
  obtain ⟨hx, hb, hr, hml, hts, hown, hlocks, hA, hG⟩ := id K
  have hl : lv_has ls 1 [(0, .int x1)] := hl
  unfold fX11_without at h
  refine lv_iload_n hx hb dX11_without_0 rfl (lv_at hl 0 rfl) ?_
  refine lv_if_ge (tgt := 9) hx hb dX11_without_1 (by decide) (fun c1 => ?_) (fun c1 => ?_)
  · have h := if_t c1 h
    refine lv_iload_n hx hb dX11_without_9 rfl (lv_at hl 0 rfl) ?_
    cases h
    exact rt_i K hP hD hS dX11_without_10
  · have h := if_f c1 h
    refine lv_iload_n hx hb dX11_without_4 rfl (lv_at hl 0 rfl) ?_
    refine lv_ineg hx hb dX11_without_5 ?_
    refine lv_goto (tgt := 10) hx hb dX11_without_6 (by decide) ?_
    cases h
    exact rt_i K hP hD hS dX11_without_10
def fX11_isCell (F : Nat)  (x1 : Int32) (x2 : Int32) : Option (Int32) :=
  (fX11_in F x1.toInt64 (0 : Int64) (9 : Int64)).bind fun r1 =>
  if r1 = 0 then
    some (0 : Int32)
  else
    (fX11_in F x2.toInt64 (0 : Int64) (5 : Int64)).bind fun r4 =>
    if r4 = 0 then
      some (0 : Int32)
    else
      some (1 : Int32)
theorem cdX11_isCell : CallD yX11_isCell 2 := by decide +kernel
set_option maxHeartbeats 4000000 in
set_option maxRecDepth 100000 in
theorem mX11_isCell (l : Launch) (G : GP) (F : Nat)   (x1 : Int32) (x2 : Int32) {r : Int32} (h : fX11_isCell F  x1 x2 = some r) : CC l G yX11_isCell cX11_isCell 2 (some .boolean) 2 [.int x1, .int x2] (List.flatten ([] : List va_W)) (List.flatten ([] : List va_W)) (some (.int r)) := by
  refine CC.of (by decide) (Nat.le_of_ble_eq_true rfl) ?_
  intro p e s m below meth c A K hP hD hS ls hl
  obtain ⟨hx, hb, hr, hml, hts, hown, hlocks, hA, hG⟩ := id K
  have hl : lv_has ls 2 [(0, .int x1), (1, .int x2)] := hl
  unfold fX11_isCell at h
  refine lv_iload_n hx hb dX11_isCell_0 rfl (lv_at hl 0 rfl) ?_
  refine lv_i2l (v := x1.toInt64) hx hb dX11_isCell_1 rfl ?_
  refine lv_lconst (v := 0) hx hb dX11_isCell_2 ll_0 ?_
  refine lv_ldc2 (v := 9) hx hb hown (hts _ tw_5_61) dX11_isCell_3 ?_
  obtain ⟨r1, hc2, h⟩ := bd_ex h
  refine sl_S K (mX11_in l G F x1.toInt64 (0 : Int64) (9 : Int64) hc2) tw_4_217 tw_1_12 tw_4_216 tw_4_215 cdX11_in ⟨Nat.le_of_ble_eq_true rfl, Nat.le_of_ble_eq_true rfl⟩ hP hD hS [] rfl rfl rfl rfl hl.1 (Nat.le_of_ble_eq_true rfl) ⟨Nat.zero_le _, Nat.zero_le _⟩ dX11_isCell_6 (fun H locs hP hD hS => ?_)
  have hP : va_P G.1 vwCl (List.flatten ([] : List va_W)) H := hP
  have hD : va_D A (List.flatten ([] : List va_W)) := hD
  refine lv_if_eq (tgt := 28) hx hb dX11_isCell_9 (by decide) (fun c3 => ?_) (fun c3 => ?_)
  · have h := if_t c3 h
    refine lv_iconst (v := 0) hx hb dX11_isCell_28 li_0 ?_
    cases h
    exact rt_z K (Or.inl rfl) hP hD hS dX11_isCell_29
  · have h := if_f c3 h
    refine lv_iload_n hx hb dX11_isCell_12 rfl (lv_at hl 1 rfl) ?_
    refine lv_i2l (v := x2.toInt64) hx hb dX11_isCell_13 rfl ?_
    refine lv_lconst (v := 0) hx hb dX11_isCell_14 ll_0 ?_
    refine lv_ldc2 (v := 5) hx hb hown (hts _ tw_5_57) dX11_isCell_15 ?_
    obtain ⟨r4, hc5, h⟩ := bd_ex h
    refine sl_S K (mX11_in l G F x2.toInt64 (0 : Int64) (5 : Int64) hc5) tw_4_217 tw_1_12 tw_4_216 tw_4_215 cdX11_in ⟨Nat.le_of_ble_eq_true rfl, Nat.le_of_ble_eq_true rfl⟩ hP hD hS [] rfl rfl rfl rfl hl.1 (Nat.le_of_ble_eq_true rfl) ⟨Nat.zero_le _, Nat.zero_le _⟩ dX11_isCell_18 (fun H locs hP hD hS => ?_)
    have hP : va_P G.1 vwCl (List.flatten ([] : List va_W)) H := hP
    have hD : va_D A (List.flatten ([] : List va_W)) := hD
    refine lv_if_eq (tgt := 28) hx hb dX11_isCell_21 (by decide) (fun c6 => ?_) (fun c6 => ?_)
    · have h := if_t c6 h
      refine lv_iconst (v := 0) hx hb dX11_isCell_28 li_0 ?_
      cases h
      exact rt_z K (Or.inl rfl) hP hD hS dX11_isCell_29
    · have h := if_f c6 h
      refine lv_iconst (v := 1) hx hb dX11_isCell_24 li_1 ?_
      refine lv_goto (tgt := 29) hx hb dX11_isCell_25 (by decide) ?_
      cases h
      exact rt_z K (Or.inr rfl) hP hD hS dX11_isCell_29
def fX11_isMinute (F : Nat)  (x1 : Int32) : Option (Int32) :=
  (fX11_in F x1.toInt64 (0 : Int64) (15 : Int64)).bind fun r1 =>
  if ¬ (r1 = 0 ∨ r1 = 1) then none else
  some r1
theorem cdX11_isMinute : CallD yX11_isMinute 1 := by decide +kernel
set_option maxHeartbeats 4000000 in
set_option maxRecDepth 100000 in
theorem mX11_isMinute (l : Launch) (G : GP) (F : Nat)   (x1 : Int32) {r : Int32} (h : fX11_isMinute F  x1 = some r) : CC l G yX11_isMinute cX11_isMinute 1 (some .boolean) 2 [.int x1] (List.flatten ([] : List va_W)) (List.flatten ([] : List va_W)) (some (.int r)) := by
  refine CC.of (by decide) (Nat.le_of_ble_eq_true rfl) ?_
  intro p e s m below meth c A K hP hD hS ls hl
  obtain ⟨hx, hb, hr, hml, hts, hown, hlocks, hA, hG⟩ := id K
  have hl : lv_has ls 1 [(0, .int x1)] := hl
  unfold fX11_isMinute at h
  refine lv_iload_n hx hb dX11_isMinute_0 rfl (lv_at hl 0 rfl) ?_
  refine lv_i2l (v := x1.toInt64) hx hb dX11_isMinute_1 rfl ?_
  refine lv_lconst (v := 0) hx hb dX11_isMinute_2 ll_0 ?_
  refine lv_ldc2 (v := 15) hx hb hown (hts _ tw_5_92) dX11_isMinute_3 ?_
  obtain ⟨r1, hc2, h⟩ := bd_ex h
  refine sl_S K (mX11_in l G F x1.toInt64 (0 : Int64) (15 : Int64) hc2) tw_4_217 tw_1_12 tw_4_216 tw_4_215 cdX11_in ⟨Nat.le_of_ble_eq_true rfl, Nat.le_of_ble_eq_true rfl⟩ hP hD hS [] rfl rfl rfl rfl hl.1 (Nat.le_of_ble_eq_true rfl) ⟨Nat.zero_le _, Nat.zero_le _⟩ dX11_isMinute_6 (fun H locs hP hD hS => ?_)
  have hP : va_P G.1 vwCl (List.flatten ([] : List va_W)) H := hP
  have hD : va_D A (List.flatten ([] : List va_W)) := hD
  obtain ⟨ck3, h⟩ := ck h
  cases h
  exact rt_z K (Classical.not_not.mp ck3) hP hD hS dX11_isMinute_9
def fX11_longAt (F : Nat)  (x1 : Int32) (x2 : Int32) : Option (Int32) :=
  (fX11_without F (x2 - (8 : Int32))).bind fun r1 =>
  some ((x1 * r1) / (4 : Int32))
theorem cdX11_longAt : CallD yX11_longAt 2 := by decide +kernel
set_option maxHeartbeats 4000000 in
set_option maxRecDepth 100000 in
theorem mX11_longAt (l : Launch) (G : GP) (F : Nat)   (x1 : Int32) (x2 : Int32) {r : Int32} (h : fX11_longAt F  x1 x2 = some r) : CC l G yX11_longAt cX11_longAt 2 (some .int) 2 [.int x1, .int x2] (List.flatten ([] : List va_W)) (List.flatten ([] : List va_W)) (some (.int r)) := by
  refine CC.of (by decide) (Nat.le_of_ble_eq_true rfl) ?_
  intro p e s m below meth c A K hP hD hS ls hl
  obtain ⟨hx, hb, hr, hml, hts, hown, hlocks, hA, hG⟩ := id K
  have hl : lv_has ls 2 [(0, .int x1), (1, .int x2)] := hl
  unfold fX11_longAt at h
  refine lv_iload_n hx hb dX11_longAt_0 rfl (lv_at hl 0 rfl) ?_
  refine lv_iload_n hx hb dX11_longAt_1 rfl (lv_at hl 1 rfl) ?_
  refine lv_bipush (v := 8) hx hb dX11_longAt_2 lb_8 ?_
  refine lv_isub hx hb dX11_longAt_4 ?_
  obtain ⟨r1, hc2, h⟩ := bd_ex h
  refine sl_S K (mX11_without l G F (x2 - (8 : Int32)) hc2) tw_5_76 tw_1_12 tw_5_75 tw_5_74 cdX11_without ⟨Nat.le_of_ble_eq_true rfl, Nat.le_of_ble_eq_true rfl⟩ hP hD hS [] rfl rfl rfl rfl hl.1 (Nat.le_of_ble_eq_true rfl) ⟨Nat.zero_le _, Nat.zero_le _⟩ dX11_longAt_5 (fun H locs hP hD hS => ?_)
  have hP : va_P G.1 vwCl (List.flatten ([] : List va_W)) H := hP
  have hD : va_D A (List.flatten ([] : List va_W)) := hD
  refine lv_imul hx hb dX11_longAt_8 ?_
  refine lv_iconst (v := 4) hx hb dX11_longAt_9 li_4 ?_
  refine lv_idiv hx hb dX11_longAt_10 (by decide) ?_
  cases h
  exact rt_i K hP hD hS dX11_longAt_11
def gbX11_reach_12 (F : Nat) (v0 : Int32) (v1 : Int32) (v2 : Int32) (v3 : Int32) (rc : Int32 → Int32 → Option (Int32 × Int32)) (v4 : Int32) (v5 : Int32) : Option (Int32 × Int32) :=
  if (10 : Int32) ≤ v5 then
    some (v4, v5)
  else
    if (8 : Int32) ≤ v2 then
      if v5 ≤ v1 then
        rc (v4 ||| (0 : Int32)) (v5 + 1)
      else
        if (v1 + v3) < v5 then
          rc (v4 ||| (0 : Int32)) (v5 + 1)
        else
          rc (v4 ||| ((1 : Int32) <<< (v5 &&& 31))) (v5 + 1)
    else
      if v1 ≤ v5 then
        rc (v4 ||| (0 : Int32)) (v5 + 1)
      else
        if v5 < (v1 - v3) then
          rc (v4 ||| (0 : Int32)) (v5 + 1)
        else
          rc (v4 ||| ((1 : Int32) <<< (v5 &&& 31))) (v5 + 1)
def gX11_reach_12 (F : Nat) (v0 : Int32) (v1 : Int32) (v2 : Int32) (v3 : Int32) : Nat → Int32 → Int32 → Option (Int32 × Int32)
  | 0, _, _ => none
  | n + 1, v4, v5 => gbX11_reach_12 F v0 v1 v2 v3 (gX11_reach_12 F v0 v1 v2 v3 n) v4 v5
set_option maxHeartbeats 4000000 in
set_option maxRecDepth 100000 in
theorem kX11_reach_12 {p : Program} {l : Launch} {e : Env} {s : State} {m : MethodId} {args : Array Value} {below : List Frame} {meth : Method} {c : Code} {A : Nat → Prop} {Q : State → Prop} {G : GP} (K : Cx p s m meth c G cX11_reach RX11 7 (some .int) args A) (F : Nat)  (v0 : Int32) (v1 : Int32) (v2 : Int32) (v3 : Int32) {z : Int32 × Int32} (kk : ∀ (H : Heap) (locs : List Loc) (ls : Array Slot), va_P G.1 vwCl (List.flatten ([] : List va_W)) H → va_D A (List.flatten ([] : List va_W)) → va_S A s.heap H locs → lv_has ls 7 [(0, .int v0), (1, .int v1), (2, .int v2), (3, .int v3), (4, .int z.1), (5, .int z.2)] → W p l e (RM 3) s m args below meth c H locs 0 0 Q (F0 m 92 ls [])) :
    ∀ (n : Nat) (v4 : Int32) (v5 : Int32) (H : Heap) (locs : List Loc) (ls : Array Slot), va_P G.1 vwCl (List.flatten ([] : List va_W)) H → va_D A (List.flatten ([] : List va_W)) → va_S A s.heap H locs → lv_has ls 7 [(0, .int v0), (1, .int v1), (2, .int v2), (3, .int v3), (4, .int v4), (5, .int v5)] → gX11_reach_12 F v0 v1 v2 v3 n v4 v5 = some z → W p l e (RM 3) s m args below meth c H locs 0 0 Q (F0 m 12 ls []) := by
  obtain ⟨hx, hb, hr, hml, hts, hown, hlocks, hA, hG⟩ := id K
  intro n
  induction n with
  | zero =>
    intro v4 v5 H locs ls hP hD hS hl h
    have h : none = some z := h
    cases h
  | succ n ih =>
    intro v4 v5 H locs ls hP hD hS hl h
    have h : gbX11_reach_12 F v0 v1 v2 v3 (gX11_reach_12 F v0 v1 v2 v3 n) v4 v5 = some z := h
    unfold gbX11_reach_12 at h
    refine lv_iload hx hb dX11_reach_12 (lv_at hl 5 rfl) ?_
    refine lv_bipush (v := 10) hx hb dX11_reach_14 lb_10 ?_
    refine lv_icmp_ge (tgt := 92) hx hb dX11_reach_16 (by decide) (fun c3 => ?_) (fun c3 => ?_)
    · have h := if_t c3 h
      cases h
      exact kk _ _ _ hP hD hS (lv_sub hl [0, 1, 2, 3, 4, 5] rfl)
    · have h := if_f c3 h
      refine lv_iload_n hx hb dX11_reach_19 rfl (lv_at hl 2 rfl) ?_
      refine lv_bipush (v := 8) hx hb dX11_reach_20 lb_8 ?_
      refine lv_icmp_ge (tgt := 47) hx hb dX11_reach_22 (by decide) (fun c4 => ?_) (fun c4 => ?_)
      · have h := if_t c4 h
        refine lv_iload hx hb dX11_reach_47 (lv_at hl 5 rfl) ?_
        refine lv_iload_n hx hb dX11_reach_49 rfl (lv_at hl 1 rfl) ?_
        refine lv_icmp_le (tgt := 65) hx hb dX11_reach_50 (by decide) (fun c5 => ?_) (fun c5 => ?_)
        · have h := if_t c5 h
          refine lv_iconst (v := 0) hx hb dX11_reach_65 li_0 ?_
          refine lv_istore (lv' := [(6, .int (0 : Int32)), (0, .int v0), (1, .int v1), (2, .int v2), (3, .int v3), (4, .int v4), (5, .int v5)]) hx hb dX11_reach_66 hl (Nat.le_of_ble_eq_true rfl) rfl (fun ls hl => ?_)
          refine lv_iload hx hb dX11_reach_68 (lv_at hl 5 rfl) ?_
          refine lv_iload hx hb dX11_reach_70 (lv_at hl 0 rfl) ?_
          refine lv_if_eq (tgt := 82) hx hb dX11_reach_72 (by decide) (fun c9 => ?_) (fun c9 => absurd c9 (by decide))
          refine lv_iconst (v := 0) hx hb dX11_reach_82 li_0 ?_
          refine lv_ior hx hb dX11_reach_83 ?_
          refine lv_istore (lv' := [(4, .int (v4 ||| (0 : Int32))), (6, .int (0 : Int32)), (0, .int v0), (1, .int v1), (2, .int v2), (3, .int v3), (5, .int v5)]) hx hb dX11_reach_84 hl (Nat.le_of_ble_eq_true rfl) rfl (fun ls hl => ?_)
          refine lv_iinc (v := v5 + 1) (lv' := [(5, .int (v5 + 1)), (4, .int (v4 ||| (0 : Int32))), (6, .int (0 : Int32)), (0, .int v0), (1, .int v1), (2, .int v2), (3, .int v3)]) hx hb dX11_reach_86 hl (k := 6) rfl (by rw [li_1]) (Nat.le_of_ble_eq_true rfl) rfl (fun ls hl => ?_)
          refine lv_goto (tgt := 12) hx hb dX11_reach_89 (by decide) ?_
          exact ih (v4 ||| (0 : Int32)) (v5 + 1) _ _ _ hP hD hS (lv_sub hl [3, 4, 5, 6, 1, 0] rfl) h
        · have h := if_f c5 h
          refine lv_iload hx hb dX11_reach_53 (lv_at hl 5 rfl) ?_
          refine lv_iload_n hx hb dX11_reach_55 rfl (lv_at hl 1 rfl) ?_
          refine lv_iload_n hx hb dX11_reach_56 rfl (lv_at hl 3 rfl) ?_
          refine lv_iadd hx hb dX11_reach_57 ?_
          refine lv_icmp_gt (tgt := 65) hx hb dX11_reach_58 (by decide) (fun c6 => ?_) (fun c6 => ?_)
          · have h := if_t c6 h
            refine lv_iconst (v := 0) hx hb dX11_reach_65 li_0 ?_
            refine lv_istore (lv' := [(6, .int (0 : Int32)), (0, .int v0), (1, .int v1), (2, .int v2), (3, .int v3), (4, .int v4), (5, .int v5)]) hx hb dX11_reach_66 hl (Nat.le_of_ble_eq_true rfl) rfl (fun ls hl => ?_)
            refine lv_iload hx hb dX11_reach_68 (lv_at hl 5 rfl) ?_
            refine lv_iload hx hb dX11_reach_70 (lv_at hl 0 rfl) ?_
            refine lv_if_eq (tgt := 82) hx hb dX11_reach_72 (by decide) (fun c9 => ?_) (fun c9 => absurd c9 (by decide))
            refine lv_iconst (v := 0) hx hb dX11_reach_82 li_0 ?_
            refine lv_ior hx hb dX11_reach_83 ?_
            refine lv_istore (lv' := [(4, .int (v4 ||| (0 : Int32))), (6, .int (0 : Int32)), (0, .int v0), (1, .int v1), (2, .int v2), (3, .int v3), (5, .int v5)]) hx hb dX11_reach_84 hl (Nat.le_of_ble_eq_true rfl) rfl (fun ls hl => ?_)
            refine lv_iinc (v := v5 + 1) (lv' := [(5, .int (v5 + 1)), (4, .int (v4 ||| (0 : Int32))), (6, .int (0 : Int32)), (0, .int v0), (1, .int v1), (2, .int v2), (3, .int v3)]) hx hb dX11_reach_86 hl (k := 6) rfl (by rw [li_1]) (Nat.le_of_ble_eq_true rfl) rfl (fun ls hl => ?_)
            refine lv_goto (tgt := 12) hx hb dX11_reach_89 (by decide) ?_
            exact ih (v4 ||| (0 : Int32)) (v5 + 1) _ _ _ hP hD hS (lv_sub hl [3, 4, 5, 6, 1, 0] rfl) h
          · have h := if_f c6 h
            refine lv_iconst (v := 1) hx hb dX11_reach_61 li_1 ?_
            refine lv_goto (tgt := 66) hx hb dX11_reach_62 (by decide) ?_
            refine lv_istore (lv' := [(6, .int (1 : Int32)), (0, .int v0), (1, .int v1), (2, .int v2), (3, .int v3), (4, .int v4), (5, .int v5)]) hx hb dX11_reach_66 hl (Nat.le_of_ble_eq_true rfl) rfl (fun ls hl => ?_)
            refine lv_iload hx hb dX11_reach_68 (lv_at hl 5 rfl) ?_
            refine lv_iload hx hb dX11_reach_70 (lv_at hl 0 rfl) ?_
            refine lv_if_eq (tgt := 82) hx hb dX11_reach_72 (by decide) (fun c9 => absurd c9 (by decide)) (fun c9 => ?_)
            refine lv_iconst (v := 1) hx hb dX11_reach_75 li_1 ?_
            refine lv_iload hx hb dX11_reach_76 (lv_at hl 6 rfl) ?_
            refine lv_ishl hx hb dX11_reach_78 ?_
            refine lv_goto (tgt := 83) hx hb dX11_reach_79 (by decide) ?_
            refine lv_ior hx hb dX11_reach_83 ?_
            refine lv_istore (lv' := [(4, .int (v4 ||| ((1 : Int32) <<< (v5 &&& 31)))), (6, .int (1 : Int32)), (0, .int v0), (1, .int v1), (2, .int v2), (3, .int v3), (5, .int v5)]) hx hb dX11_reach_84 hl (Nat.le_of_ble_eq_true rfl) rfl (fun ls hl => ?_)
            refine lv_iinc (v := v5 + 1) (lv' := [(5, .int (v5 + 1)), (4, .int (v4 ||| ((1 : Int32) <<< (v5 &&& 31)))), (6, .int (1 : Int32)), (0, .int v0), (1, .int v1), (2, .int v2), (3, .int v3)]) hx hb dX11_reach_86 hl (k := 6) rfl (by rw [li_1]) (Nat.le_of_ble_eq_true rfl) rfl (fun ls hl => ?_)
            refine lv_goto (tgt := 12) hx hb dX11_reach_89 (by decide) ?_
            exact ih (v4 ||| ((1 : Int32) <<< (v5 &&& 31))) (v5 + 1) _ _ _ hP hD hS (lv_sub hl [3, 4, 5, 6, 1, 0] rfl) h
      · have h := if_f c4 h
        refine lv_iload hx hb dX11_reach_25 (lv_at hl 5 rfl) ?_
        refine lv_iload_n hx hb dX11_reach_27 rfl (lv_at hl 1 rfl) ?_
        refine lv_icmp_ge (tgt := 43) hx hb dX11_reach_28 (by decide) (fun c7 => ?_) (fun c7 => ?_)
        · have h := if_t c7 h
          refine lv_iconst (v := 0) hx hb dX11_reach_43 li_0 ?_
          refine lv_goto (tgt := 66) hx hb dX11_reach_44 (by decide) ?_
          refine lv_istore (lv' := [(6, .int (0 : Int32)), (0, .int v0), (1, .int v1), (2, .int v2), (3, .int v3), (4, .int v4), (5, .int v5)]) hx hb dX11_reach_66 hl (Nat.le_of_ble_eq_true rfl) rfl (fun ls hl => ?_)
          refine lv_iload hx hb dX11_reach_68 (lv_at hl 5 rfl) ?_
          refine lv_iload hx hb dX11_reach_70 (lv_at hl 0 rfl) ?_
          refine lv_if_eq (tgt := 82) hx hb dX11_reach_72 (by decide) (fun c9 => ?_) (fun c9 => absurd c9 (by decide))
          refine lv_iconst (v := 0) hx hb dX11_reach_82 li_0 ?_
          refine lv_ior hx hb dX11_reach_83 ?_
          refine lv_istore (lv' := [(4, .int (v4 ||| (0 : Int32))), (6, .int (0 : Int32)), (0, .int v0), (1, .int v1), (2, .int v2), (3, .int v3), (5, .int v5)]) hx hb dX11_reach_84 hl (Nat.le_of_ble_eq_true rfl) rfl (fun ls hl => ?_)
          refine lv_iinc (v := v5 + 1) (lv' := [(5, .int (v5 + 1)), (4, .int (v4 ||| (0 : Int32))), (6, .int (0 : Int32)), (0, .int v0), (1, .int v1), (2, .int v2), (3, .int v3)]) hx hb dX11_reach_86 hl (k := 6) rfl (by rw [li_1]) (Nat.le_of_ble_eq_true rfl) rfl (fun ls hl => ?_)
          refine lv_goto (tgt := 12) hx hb dX11_reach_89 (by decide) ?_
          exact ih (v4 ||| (0 : Int32)) (v5 + 1) _ _ _ hP hD hS (lv_sub hl [3, 4, 5, 6, 1, 0] rfl) h
        · have h := if_f c7 h
          refine lv_iload hx hb dX11_reach_31 (lv_at hl 5 rfl) ?_
          refine lv_iload_n hx hb dX11_reach_33 rfl (lv_at hl 1 rfl) ?_
          refine lv_iload_n hx hb dX11_reach_34 rfl (lv_at hl 3 rfl) ?_
          refine lv_isub hx hb dX11_reach_35 ?_
          refine lv_icmp_lt (tgt := 43) hx hb dX11_reach_36 (by decide) (fun c8 => ?_) (fun c8 => ?_)
          · have h := if_t c8 h
            refine lv_iconst (v := 0) hx hb dX11_reach_43 li_0 ?_
            refine lv_goto (tgt := 66) hx hb dX11_reach_44 (by decide) ?_
            refine lv_istore (lv' := [(6, .int (0 : Int32)), (0, .int v0), (1, .int v1), (2, .int v2), (3, .int v3), (4, .int v4), (5, .int v5)]) hx hb dX11_reach_66 hl (Nat.le_of_ble_eq_true rfl) rfl (fun ls hl => ?_)
            refine lv_iload hx hb dX11_reach_68 (lv_at hl 5 rfl) ?_
            refine lv_iload hx hb dX11_reach_70 (lv_at hl 0 rfl) ?_
            refine lv_if_eq (tgt := 82) hx hb dX11_reach_72 (by decide) (fun c9 => ?_) (fun c9 => absurd c9 (by decide))
            refine lv_iconst (v := 0) hx hb dX11_reach_82 li_0 ?_
            refine lv_ior hx hb dX11_reach_83 ?_
            refine lv_istore (lv' := [(4, .int (v4 ||| (0 : Int32))), (6, .int (0 : Int32)), (0, .int v0), (1, .int v1), (2, .int v2), (3, .int v3), (5, .int v5)]) hx hb dX11_reach_84 hl (Nat.le_of_ble_eq_true rfl) rfl (fun ls hl => ?_)
            refine lv_iinc (v := v5 + 1) (lv' := [(5, .int (v5 + 1)), (4, .int (v4 ||| (0 : Int32))), (6, .int (0 : Int32)), (0, .int v0), (1, .int v1), (2, .int v2), (3, .int v3)]) hx hb dX11_reach_86 hl (k := 6) rfl (by rw [li_1]) (Nat.le_of_ble_eq_true rfl) rfl (fun ls hl => ?_)
            refine lv_goto (tgt := 12) hx hb dX11_reach_89 (by decide) ?_
            exact ih (v4 ||| (0 : Int32)) (v5 + 1) _ _ _ hP hD hS (lv_sub hl [3, 4, 5, 6, 1, 0] rfl) h
          · have h := if_f c8 h
            refine lv_iconst (v := 1) hx hb dX11_reach_39 li_1 ?_
            refine lv_goto (tgt := 66) hx hb dX11_reach_40 (by decide) ?_
            refine lv_istore (lv' := [(6, .int (1 : Int32)), (0, .int v0), (1, .int v1), (2, .int v2), (3, .int v3), (4, .int v4), (5, .int v5)]) hx hb dX11_reach_66 hl (Nat.le_of_ble_eq_true rfl) rfl (fun ls hl => ?_)
            refine lv_iload hx hb dX11_reach_68 (lv_at hl 5 rfl) ?_
            refine lv_iload hx hb dX11_reach_70 (lv_at hl 0 rfl) ?_
            refine lv_if_eq (tgt := 82) hx hb dX11_reach_72 (by decide) (fun c9 => absurd c9 (by decide)) (fun c9 => ?_)
            refine lv_iconst (v := 1) hx hb dX11_reach_75 li_1 ?_
            refine lv_iload hx hb dX11_reach_76 (lv_at hl 6 rfl) ?_
            refine lv_ishl hx hb dX11_reach_78 ?_
            refine lv_goto (tgt := 83) hx hb dX11_reach_79 (by decide) ?_
            refine lv_ior hx hb dX11_reach_83 ?_
            refine lv_istore (lv' := [(4, .int (v4 ||| ((1 : Int32) <<< (v5 &&& 31)))), (6, .int (1 : Int32)), (0, .int v0), (1, .int v1), (2, .int v2), (3, .int v3), (5, .int v5)]) hx hb dX11_reach_84 hl (Nat.le_of_ble_eq_true rfl) rfl (fun ls hl => ?_)
            refine lv_iinc (v := v5 + 1) (lv' := [(5, .int (v5 + 1)), (4, .int (v4 ||| ((1 : Int32) <<< (v5 &&& 31)))), (6, .int (1 : Int32)), (0, .int v0), (1, .int v1), (2, .int v2), (3, .int v3)]) hx hb dX11_reach_86 hl (k := 6) rfl (by rw [li_1]) (Nat.le_of_ble_eq_true rfl) rfl (fun ls hl => ?_)
            refine lv_goto (tgt := 12) hx hb dX11_reach_89 (by decide) ?_
            exact ih (v4 ||| ((1 : Int32) <<< (v5 &&& 31))) (v5 + 1) _ _ _ hP hD hS (lv_sub hl [3, 4, 5, 6, 1, 0] rfl) h
def fX11_reach (F : Nat)  (x1 : Int32) (x2 : Int32) (x3 : Int32) : Option (Int32) :=
  (fX11_longAt F x1 x3).bind fun r1 =>
  (gX11_reach_12 F x1 x2 x3 r1 F (0 : Int32) (0 : Int32)).bind fun z9 =>
    some z9.1
theorem cdX11_reach : CallD yX11_reach 3 := by decide +kernel
set_option maxHeartbeats 4000000 in
set_option maxRecDepth 100000 in
theorem mX11_reach (l : Launch) (G : GP) (F : Nat)   (x1 : Int32) (x2 : Int32) (x3 : Int32) {r : Int32} (h : fX11_reach F  x1 x2 x3 = some r) : CC l G yX11_reach cX11_reach 7 (some .int) 3 [.int x1, .int x2, .int x3] (List.flatten ([] : List va_W)) (List.flatten ([] : List va_W)) (some (.int r)) := by
  refine CC.of (by decide) (Nat.le_of_ble_eq_true rfl) ?_
  intro p e s m below meth c A K hP hD hS ls hl
  obtain ⟨hx, hb, hr, hml, hts, hown, hlocks, hA, hG⟩ := id K
  have hl : lv_has ls 7 [(0, .int x1), (1, .int x2), (2, .int x3)] := hl
  unfold fX11_reach at h
  refine lv_iload_n hx hb dX11_reach_0 rfl (lv_at hl 0 rfl) ?_
  refine lv_iload_n hx hb dX11_reach_1 rfl (lv_at hl 2 rfl) ?_
  obtain ⟨r1, hc2, h⟩ := bd_ex h
  refine sl_S K (mX11_longAt l G F x1 x3 hc2) tw_5_95 tw_1_12 tw_5_94 tw_5_93 cdX11_longAt ⟨Nat.le_of_ble_eq_true rfl, Nat.le_of_ble_eq_true rfl⟩ hP hD hS [] rfl rfl rfl rfl hl.1 (Nat.le_of_ble_eq_true rfl) ⟨Nat.zero_le _, Nat.zero_le _⟩ dX11_reach_2 (fun H locs hP hD hS => ?_)
  have hP : va_P G.1 vwCl (List.flatten ([] : List va_W)) H := hP
  have hD : va_D A (List.flatten ([] : List va_W)) := hD
  refine lv_istore_n (lv' := [(3, .int r1), (0, .int x1), (1, .int x2), (2, .int x3)]) hx hb dX11_reach_5 rfl hl (Nat.le_of_ble_eq_true rfl) rfl (fun ls hl => ?_)
  refine lv_iconst (v := 0) hx hb dX11_reach_6 li_0 ?_
  refine lv_istore (lv' := [(4, .int (0 : Int32)), (3, .int r1), (0, .int x1), (1, .int x2), (2, .int x3)]) hx hb dX11_reach_7 hl (Nat.le_of_ble_eq_true rfl) rfl (fun ls hl => ?_)
  refine lv_iconst (v := 0) hx hb dX11_reach_9 li_0 ?_
  refine lv_istore (lv' := [(5, .int (0 : Int32)), (4, .int (0 : Int32)), (3, .int r1), (0, .int x1), (1, .int x2), (2, .int x3)]) hx hb dX11_reach_10 hl (Nat.le_of_ble_eq_true rfl) rfl (fun ls hl => ?_)
  obtain ⟨z9, hz10, h⟩ := bd_ex h
  refine kX11_reach_12 K F  x1 x2 x3 r1 (fun H locs ls hP hD hS hl => ?_) F (0 : Int32) (0 : Int32) _ _ _ hP hD hS (lv_sub hl [3, 4, 5, 2, 1, 0] rfl) hz10
  refine lv_iload hx hb dX11_reach_92 (lv_at hl 4 rfl) ?_
  cases h
  exact rt_i K hP hD hS dX11_reach_94
