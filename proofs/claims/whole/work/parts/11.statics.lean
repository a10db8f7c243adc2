def fX10_isBelow (F : Nat)  (x1 : Int32) (x2 : Int32) : Option (Int32) :=
  if x1 < 0 then
    some (0 : Int32)
  else
    if x2 ≤ x1 then
      some (0 : Int32)
    else
      some (1 : Int32)
theorem cdX10_isBelow : CallD yX10_isBelow 2 := by decide +kernel
set_option maxHeartbeats 4000000 in
set_option maxRecDepth 100000 in
theorem mX10_isBelow (l : Launch) (G : GP) (F : Nat)   (x1 : Int32) (x2 : Int32) {r : Int32} (h : fX10_isBelow F  x1 x2 = some r) : CC l G yX10_isBelow cX10_isBelow 2 (some .boolean) 1 [.int x1, .int x2] (List.flatten ([] : List va_W)) (List.flatten ([] : List va_W)) (some (.int r)) := by
  refine CC.of (by decide) (Nat.le_of_ble_eq_true rfl) ?_
  intro p e s m below meth c A K hP hD hS ls hl
  obtain ⟨hx, hb, hr, hml, hts, hown, hlocks, hA, hG⟩ := id K
  have hl : lv_has ls 2 [(0, .int x1), (1, .int x2)] := hl
  unfold fX10_isBelow at h
  refine lv_iload_n hx hb dX10_isBelow_0 rfl (lv_at hl 0 rfl) ?_
  refine lv_if_lt (tgt := 13) hx hb dX10_isBelow_1 (by decide) (fun c1 => ?_) (fun c1 => ?_)
  · have h := if_t c1 h
    refine lv_iconst (v := 0) hx hb dX10_isBelow_13 li_0 ?_
    cases h
    exact rt_z K (Or.inl rfl) hP hD hS dX10_isBelow_14
  · have h := if_f c1 h
    refine lv_iload_n hx hb dX10_isBelow_4 rfl (lv_at hl 0 rfl) ?_
    refine lv_iload_n hx hb dX10_isBelow_5 rfl (lv_at hl 1 rfl) ?_
    refine lv_icmp_ge (tgt := 13) hx hb dX10_isBelow_6 (by decide) (fun c2 => ?_) (fun c2 => ?_)
    · have h := if_t c2 h
      refine lv_iconst (v := 0) hx hb dX10_isBelow_13 li_0 ?_
      cases h
      exact rt_z K (Or.inl rfl) hP hD hS dX10_isBelow_14
    · have h := if_f c2 h
      refine lv_iconst (v := 1) hx hb dX10_isBelow_9 li_1 ?_
      refine lv_goto (tgt := 14) hx hb dX10_isBelow_10 (by decide) ?_
      cases h
      exact rt_z K (Or.inr rfl) hP hD hS dX10_isBelow_14
def fX10_isMinute (F : Nat)  (x1 : Int32) : Option (Int32) :=
  (fX10_isBelow F x1 (16 : Int32)).bind fun r1 =>
  if ¬ (r1 = 0 ∨ r1 = 1) then none else
  some r1
theorem cdX10_isMinute : CallD yX10_isMinute 1 := by decide +kernel
set_option maxHeartbeats 4000000 in
set_option maxRecDepth 100000 in
theorem mX10_isMinute (l : Launch) (G : GP) (F : Nat)   (x1 : Int32) {r : Int32} (h : fX10_isMinute F  x1 = some r) : CC l G yX10_isMinute cX10_isMinute 1 (some .boolean) 2 [.int x1] (List.flatten ([] : List va_W)) (List.flatten ([] : List va_W)) (some (.int r)) := by
  refine CC.of (by decide) (Nat.le_of_ble_eq_true rfl) ?_
  intro p e s m below meth c A K hP hD hS ls hl
  obtain ⟨hx, hb, hr, hml, hts, hown, hlocks, hA, hG⟩ := id K
  have hl : lv_has ls 1 [(0, .int x1)] := hl
  unfold fX10_isMinute at h
  refine lv_iload_n hx hb dX10_isMinute_0 rfl (lv_at hl 0 rfl) ?_
  refine lv_bipush (v := 16) hx hb dX10_isMinute_1 lb_16 ?_
  obtain ⟨r1, hc2, h⟩ := bd_ex h
  refine sl_S K (mX10_isBelow l G F x1 (16 : Int32) hc2) tw_2_194 tw_1_1 tw_2_193 tw_2_222 cdX10_isBelow ⟨Nat.le_of_ble_eq_true rfl, Nat.le_of_ble_eq_true rfl⟩ hP hD hS [] rfl rfl rfl rfl hl.1 (Nat.le_of_ble_eq_true rfl) ⟨Nat.zero_le _, Nat.zero_le _⟩ dX10_isMinute_3 (fun H locs hP hD hS => ?_)
  have hP : va_P G.1 vwCl (List.flatten ([] : List va_W)) H := hP
  have hD : va_D A (List.flatten ([] : List va_W)) := hD
  obtain ⟨ck3, h⟩ := ck h
  cases h
  exact rt_z K (Classical.not_not.mp ck3) hP hD hS dX10_isMinute_6
def fX10_isCell (F : Nat)  (x1 : Int32) (x2 : Int32) : Option (Int32) :=
  (fX10_isBelow F x1 (10 : Int32)).bind fun r1 =>
  if r1 = 0 then
    some (0 : Int32)
  else
    (fX10_isBelow F x2 (6 : Int32)).bind fun r4 =>
    if r4 = 0 then
      some (0 : Int32)
    else
      some (1 : Int32)
theorem cdX10_isCell : CallD yX10_isCell 2 := by decide +kernel
set_option maxHeartbeats 4000000 in
set_option maxRecDepth 100000 in
theorem mX10_isCell (l : Launch) (G : GP) (F : Nat)   (x1 : Int32) (x2 : Int32) {r : Int32} (h : fX10_isCell F  x1 x2 = some r) : CC l G yX10_isCell cX10_isCell 2 (some .boolean) 2 [.int x1, .int x2] (List.flatten ([] : List va_W)) (List.flatten ([] : List va_W)) (some (.int r)) := by
  refine CC.of (by decide) (Nat.le_of_ble_eq_true rfl) ?_
  intro p e s m below meth c A K hP hD hS ls hl
  obtain ⟨hx, hb, hr, hml, hts, hown, hlocks, hA, hG⟩ := id K
  have hl : lv_has ls 2 [(0, .int x1), (1, .int x2)] := hl
  unfold fX10_isCell at h
  refine lv_iload_n hx hb dX10_isCell_0 rfl (lv_at hl 0 rfl) ?_
  refine lv_bipush (v := 10) hx hb dX10_isCell_1 lb_10 ?_
  obtain ⟨r1, hc2, h⟩ := bd_ex h
  refine sl_S K (mX10_isBelow l G F x1 (10 : Int32) hc2) tw_2_194 tw_1_1 tw_2_193 tw_2_222 cdX10_isBelow ⟨Nat.le_of_ble_eq_true rfl, Nat.le_of_ble_eq_true rfl⟩ hP hD hS [] rfl rfl rfl rfl hl.1 (Nat.le_of_ble_eq_true rfl) ⟨Nat.zero_le _, Nat.zero_le _⟩ dX10_isCell_3 (fun H locs hP hD hS => ?_)
  have hP : va_P G.1 vwCl (List.flatten ([] : List va_W)) H := hP
  have hD : va_D A (List.flatten ([] : List va_W)) := hD
  refine lv_if_eq (tgt := 22) hx hb dX10_isCell_6 (by decide) (fun c3 => ?_) (fun c3 => ?_)
  · have h := if_t c3 h
    refine lv_iconst (v := 0) hx hb dX10_isCell_22 li_0 ?_
    cases h
    exact rt_z K (Or.inl rfl) hP hD hS dX10_isCell_23
  · have h := if_f c3 h
    refine lv_iload_n hx hb dX10_isCell_9 rfl (lv_at hl 1 rfl) ?_
    refine lv_bipush (v := 6) hx hb dX10_isCell_10 lb_6 ?_
    obtain ⟨r4, hc5, h⟩ := bd_ex h
    refine sl_S K (mX10_isBelow l G F x2 (6 : Int32) hc5) tw_2_194 tw_1_1 tw_2_193 tw_2_222 cdX10_isBelow ⟨Nat.le_of_ble_eq_true rfl, Nat.le_of_ble_eq_true rfl⟩ hP hD hS [] rfl rfl rfl rfl hl.1 (Nat.le_of_ble_eq_true rfl) ⟨Nat.zero_le _, Nat.zero_le _⟩ dX10_isCell_12 (fun H locs hP hD hS => ?_)
    have hP : va_P G.1 vwCl (List.flatten ([] : List va_W)) H := hP
    have hD : va_D A (List.flatten ([] : List va_W)) := hD
    refine lv_if_eq (tgt := 22) hx hb dX10_isCell_15 (by decide) (fun c6 => ?_) (fun c6 => ?_)
    · have h := if_t c6 h
      refine lv_iconst (v := 0) hx hb dX10_isCell_22 li_0 ?_
      cases h
      exact rt_z K (Or.inl rfl) hP hD hS dX10_isCell_23
    · have h := if_f c6 h
      refine lv_iconst (v := 1) hx hb dX10_isCell_18 li_1 ?_
      refine lv_goto (tgt := 23) hx hb dX10_isCell_19 (by decide) ?_
      cases h
      exact rt_z K (Or.inr rfl) hP hD hS dX10_isCell_23
def fX10_lengthOfShadow (F : Nat)  (x1 : Int32) (x2 : Int32) : Option (Int32) :=
  some ((x1 * (if 0 ≤ (x2 - (8 : Int32)) then (x2 - (8 : Int32)) else 0 - (x2 - (8 : Int32)))) / (4 : Int32))
theorem cdX10_lengthOfShadow : CallD yX10_lengthOfShadow 2 := by decide +kernel
set_option maxHeartbeats 4000000 in
set_option maxRecDepth 100000 in
theorem mX10_lengthOfShadow (l : Launch) (G : GP) (F : Nat)   (x1 : Int32) (x2 : Int32) {r : Int32} (h : fX10_lengthOfShadow F  x1 x2 = some r) : CC l G yX10_lengthOfShadow cX10_lengthOfShadow 2 (some .int) 2 [.int x1, .int x2] (List.flatten ([] : List va_W)) (List.flatten ([] : List va_W)) (some (.int r)) := by
  refine CC.of (by decide) (Nat.le_of_ble_eq_true rfl) ?_
  intro p e s m below meth c A K hP hD hS ls hl
  obtain ⟨hx, hb, hr, hml, hts, hown, hlocks, hA, hG⟩ := id K
  have hl : lv_has ls 2 [(0, .int x1), (1, .int x2)] := hl
  unfold fX10_lengthOfShadow at h
  refine lv_iload_n hx hb dX10_lengthOfShadow_0 rfl (lv_at hl 0 rfl) ?_
  refine lv_iload_n hx hb dX10_lengthOfShadow_1 rfl (lv_at hl 1 rfl) ?_
  refine lv_bipush (v := 8) hx hb dX10_lengthOfShadow_2 lb_8 ?_
  refine lv_isub hx hb dX10_lengthOfShadow_4 ?_
  refine va_mabs hx hb (hml.trans hl.1.symm) hown (hts _ tw_3_89) (hts _ tw_3_90) (hts _ tw_1_15) (hts _ tw_3_91) (Nat.le_of_ble_eq_true rfl) (Nat.le_of_ble_eq_true rfl) (Nat.zero_le _) (Nat.zero_le _) dX10_lengthOfShadow_5 ?_
  refine lv_imul hx hb dX10_lengthOfShadow_8 ?_
  refine lv_iconst (v := 4) hx hb dX10_lengthOfShadow_9 li_4 ?_
  refine lv_idiv hx hb dX10_lengthOfShadow_10 (by decide) ?_
  cases h
  exact rt_i K hP hD hS dX10_lengthOfShadow_11
def fX10_columnBits (F : Nat)  (x1 : Int32) (x2 : Int32) : Option (Int32) :=
  if (if x1 < (0 : Int32) then (0 : Int32) else x1) ≤ (if (9 : Int32) < x2 then (9 : Int32) else x2) then
    some (((1 : Int32) <<< (((if (9 : Int32) < x2 then (9 : Int32) else x2) + (1 : Int32)) &&& 31)) - ((1 : Int32) <<< ((if x1 < (0 : Int32) then (0 : Int32) else x1) &&& 31)))
  else
    some (0 : Int32)
theorem cdX10_columnBits : CallD yX10_columnBits 2 := by decide +kernel
set_option maxHeartbeats 4000000 in
set_option maxRecDepth 100000 in
theorem mX10_columnBits (l : Launch) (G : GP) (F : Nat)   (x1 : Int32) (x2 : Int32) {r : Int32} (h : fX10_columnBits F  x1 x2 = some r) : CC l G yX10_columnBits cX10_columnBits 4 (some .int) 2 [.int x1, .int x2] (List.flatten ([] : List va_W)) (List.flatten ([] : List va_W)) (some (.int r)) := by
  refine CC.of (by decide) (Nat.le_of_ble_eq_true rfl) ?_
  intro p e s m below meth c A K hP hD hS ls hl
  obtain ⟨hx, hb, hr, hml, hts, hown, hlocks, hA, hG⟩ := id K
  have hl : lv_has ls 4 [(0, .int x1), (1, .int x2)] := hl
  unfold fX10_columnBits at h
  refine lv_iload_n hx hb dX10_columnBits_0 rfl (lv_at hl 0 rfl) ?_
  refine lv_iconst (v := 0) hx hb dX10_columnBits_1 li_0 ?_
  refine va_mmax hx hb (hml.trans hl.1.symm) hown (hts _ tw_3_134) (hts _ tw_2_132) (hts _ tw_1_15) (hts _ tw_2_133) (Nat.le_of_ble_eq_true rfl) (Nat.le_of_ble_eq_true rfl) (Nat.zero_le _) (Nat.zero_le _) dX10_columnBits_2 ?_
  refine lv_istore_n (lv' := [(2, .int (if x1 < (0 : Int32) then (0 : Int32) else x1)), (0, .int x1), (1, .int x2)]) hx hb dX10_columnBits_5 rfl hl (Nat.le_of_ble_eq_true rfl) rfl (fun ls hl => ?_)
  refine lv_iload_n hx hb dX10_columnBits_6 rfl (lv_at hl 2 rfl) ?_
  refine lv_bipush (v := 9) hx hb dX10_columnBits_7 lb_9 ?_
  refine va_mmin hx hb (hml.trans hl.1.symm) hown (hts _ tw_3_135) (hts _ tw_2_135) (hts _ tw_1_15) (hts _ tw_2_136) (Nat.le_of_ble_eq_true rfl) (Nat.le_of_ble_eq_true rfl) (Nat.zero_le _) (Nat.zero_le _) dX10_columnBits_9 ?_
  refine lv_istore_n (lv' := [(3, .int (if (9 : Int32) < x2 then (9 : Int32) else x2)), (2, .int (if x1 < (0 : Int32) then (0 : Int32) else x1)), (0, .int x1), (1, .int x2)]) hx hb dX10_columnBits_12 rfl hl (Nat.le_of_ble_eq_true rfl) rfl (fun ls hl => ?_)
  refine lv_iload_n hx hb dX10_columnBits_13 rfl (lv_at hl 1 rfl) ?_
  refine lv_iload_n hx hb dX10_columnBits_14 rfl (lv_at hl 0 rfl) ?_
  refine lv_icmp_le (tgt := 22) hx hb dX10_columnBits_15 (by decide) (fun c1 => ?_) (fun c1 => ?_)
  · have h := if_t c1 h
    refine lv_iconst (v := 1) hx hb dX10_columnBits_22 li_1 ?_
    refine lv_iload_n hx hb dX10_columnBits_23 rfl (lv_at hl 0 rfl) ?_
    refine lv_iconst (v := 1) hx hb dX10_columnBits_24 li_1 ?_
    refine lv_iadd hx hb dX10_columnBits_25 ?_
    refine lv_ishl hx hb dX10_columnBits_26 ?_
    refine lv_iconst (v := 1) hx hb dX10_columnBits_27 li_1 ?_
    refine lv_iload_n hx hb dX10_columnBits_28 rfl (lv_at hl 1 rfl) ?_
    refine lv_ishl hx hb dX10_columnBits_29 ?_
    refine lv_isub hx hb dX10_columnBits_30 ?_
    cases h
    exact rt_i K hP hD hS dX10_columnBits_31
  · have h := if_f c1 h
    refine lv_iconst (v := 0) hx hb dX10_columnBits_18 li_0 ?_
    refine lv_goto (tgt := 31) hx hb dX10_columnBits_19 (by decide) ?_
    cases h
    exact rt_i K hP hD hS dX10_columnBits_31
def fX10_reach (F : Nat)  (x1 : Int32) (x2 : Int32) (x3 : Int32) : Option (Int32) :=
  (fX10_lengthOfShadow F x1 x3).bind fun r1 =>
  if (8 : Int32) ≤ x3 then
    (fX10_columnBits F (x2 + (1 : Int32)) (x2 + r1)).bind fun r4 =>
    some r4
  else
    (fX10_columnBits F (x2 - r1) (x2 - (1 : Int32))).bind fun r6 =>
    some r6
theorem cdX10_reach : CallD yX10_reach 3 := by decide +kernel
set_option maxHeartbeats 4000000 in
set_option maxRecDepth 100000 in
theorem mX10_reach (l : Launch) (G : GP) (F : Nat)   (x1 : Int32) (x2 : Int32) (x3 : Int32) {r : Int32} (h : fX10_reach F  x1 x2 x3 = some r) : CC l G yX10_reach cX10_reach 4 (some .int) 3 [.int x1, .int x2, .int x3] (List.flatten ([] : List va_W)) (List.flatten ([] : List va_W)) (some (.int r)) := by
  refine CC.of (by decide) (Nat.le_of_ble_eq_true rfl) ?_
  intro p e s m below meth c A K hP hD hS ls hl
  obtain ⟨hx, hb, hr, hml, hts, hown, hlocks, hA, hG⟩ := id K
  have hl : lv_has ls 4 [(0, .int x1), (1, .int x2), (2, .int x3)] := hl
  unfold fX10_reach at h
  refine lv_iload_n hx hb dX10_reach_0 rfl (lv_at hl 0 rfl) ?_
  refine lv_iload_n hx hb dX10_reach_1 rfl (lv_at hl 2 rfl) ?_
  obtain ⟨r1, hc2, h⟩ := bd_ex h
  refine sl_S K (mX10_lengthOfShadow l G F x1 x3 hc2) tw_3_118 tw_1_1 tw_3_117 tw_3_116 cdX10_lengthOfShadow ⟨Nat.le_of_ble_eq_true rfl, Nat.le_of_ble_eq_true rfl⟩ hP hD hS [] rfl rfl rfl rfl hl.1 (Nat.le_of_ble_eq_true rfl) ⟨Nat.zero_le _, Nat.zero_le _⟩ dX10_reach_2 (fun H locs hP hD hS => ?_)
  have hP : va_P G.1 vwCl (List.flatten ([] : List va_W)) H := hP
  have hD : va_D A (List.flatten ([] : List va_W)) := hD
  refine lv_istore_n (lv' := [(3, .int r1), (0, .int x1), (1, .int x2), (2, .int x3)]) hx hb dX10_reach_5 rfl hl (Nat.le_of_ble_eq_true rfl) rfl (fun ls hl => ?_)
  refine lv_iload_n hx hb dX10_reach_6 rfl (lv_at hl 3 rfl) ?_
  refine lv_bipush (v := 8) hx hb dX10_reach_7 lb_8 ?_
  refine lv_icmp_ge (tgt := 24) hx hb dX10_reach_9 (by decide) (fun c3 => ?_) (fun c3 => ?_)
  · have h := if_t c3 h
    refine lv_iload_n hx hb dX10_reach_24 rfl (lv_at hl 2 rfl) ?_
    refine lv_iconst (v := 1) hx hb dX10_reach_25 li_1 ?_
    refine lv_iadd hx hb dX10_reach_26 ?_
    refine lv_iload_n hx hb dX10_reach_27 rfl (lv_at hl 2 rfl) ?_
    refine lv_iload_n hx hb dX10_reach_28 rfl (lv_at hl 0 rfl) ?_
    refine lv_iadd hx hb dX10_reach_29 ?_
    obtain ⟨r4, hc5, h⟩ := bd_ex h
    refine sl_S K (mX10_columnBits l G F (x2 + (1 : Int32)) (x2 + r1) hc5) tw_3_133 tw_1_1 tw_3_132 tw_3_131 cdX10_columnBits ⟨Nat.le_of_ble_eq_true rfl, Nat.le_of_ble_eq_true rfl⟩ hP hD hS [] rfl rfl rfl rfl hl.1 (Nat.le_of_ble_eq_true rfl) ⟨Nat.zero_le _, Nat.zero_le _⟩ dX10_reach_30 (fun H locs hP hD hS => ?_)
    have hP : va_P G.1 vwCl (List.flatten ([] : List va_W)) H := hP
    have hD : va_D A (List.flatten ([] : List va_W)) := hD
    cases h
    exact rt_i K hP hD hS dX10_reach_33
  · have h := if_f c3 h
    refine lv_iload_n hx hb dX10_reach_12 rfl (lv_at hl 2 rfl) ?_
    refine lv_iload_n hx hb dX10_reach_13 rfl (lv_at hl 0 rfl) ?_
    refine lv_isub hx hb dX10_reach_14 ?_
    refine lv_iload_n hx hb dX10_reach_15 rfl (lv_at hl 2 rfl) ?_
    refine lv_iconst (v := 1) hx hb dX10_reach_16 li_1 ?_
    refine lv_isub hx hb dX10_reach_17 ?_
    obtain ⟨r6, hc7, h⟩ := bd_ex h
    refine sl_S K (mX10_columnBits l G F (x2 - r1) (x2 - (1 : Int32)) hc7) tw_3_133 tw_1_1 tw_3_132 tw_3_131 cdX10_columnBits ⟨Nat.le_of_ble_eq_true rfl, Nat.le_of_ble_eq_true rfl⟩ hP hD hS [] rfl rfl rfl rfl hl.1 (Nat.le_of_ble_eq_true rfl) ⟨Nat.zero_le _, Nat.zero_le _⟩ dX10_reach_18 (fun H locs hP hD hS => ?_)
    have hP : va_P G.1 vwCl (List.flatten ([] : List va_W)) H := hP
    have hD : va_D A (List.flatten ([] : List va_W)) := hD
    refine lv_goto (tgt := 33) hx hb dX10_reach_21 (by decide) ?_
    cases h
    exact rt_i K hP hD hS dX10_reach_33
