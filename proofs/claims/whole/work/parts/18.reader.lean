def fX5_valueOf (F : Nat)  (x1 : Int32) : Option (Int32) :=
  if x1 < (48 : Int32) then
    if x1 < (97 : Int32) then
      some (-9 : Int32)
    else
      if (102 : Int32) < x1 then
        some (-9 : Int32)
      else
        some ((x1 - (97 : Int32)) + (10 : Int32))
  else
    if (57 : Int32) < x1 then
      if x1 < (97 : Int32) then
        some (-9 : Int32)
      else
        if (102 : Int32) < x1 then
          some (-9 : Int32)
        else
          some ((x1 - (97 : Int32)) + (10 : Int32))
    else
      some (x1 - (48 : Int32))
theorem cdX5_valueOf : CallD yX5_valueOf 1 := by decide +kernel
set_option maxHeartbeats 4000000 in
set_option maxRecDepth 100000 in
theorem mX5_valueOf (l : Launch) (G : GP) (F : Nat)   (x1 : Int32) {r : Int32} (h : fX5_valueOf F  x1 = some r) : CC l G yX5_valueOf cX5_valueOf 1 (some .int) 1 [.int x1] (List.flatten ([] : List va_W)) (List.flatten ([] : List va_W)) (some (.int r)) := by
  refine CC.of (by decide) (Nat.le_of_ble_eq_true rfl) ?_
  intro p e s m below meth c A K hP hD hS ls hl
  obtain ⟨hx, hb, hr, hml, hts, hown, hlocks, hA, hG⟩ := id K
  have hl : lv_has ls 1 [(0, .int x1)] := hl
  unfold fX5_valueOf at h
  refine lv_iload_n hx hb dX5_valueOf_0 rfl (lv_at hl 0 rfl) ?_
  refine lv_bipush (v := 48) hx hb dX5_valueOf_1 lb_48 ?_
  refine lv_icmp_lt (tgt := 17) hx hb dX5_valueOf_3 (by decide) (fun c1 => ?_) (fun c1 => ?_)
  · have h := if_t c1 h
    refine lv_iload_n hx hb dX5_valueOf_17 rfl (lv_at hl 0 rfl) ?_
    refine lv_bipush (v := 97) hx hb dX5_valueOf_18 lb_97 ?_
    refine lv_icmp_lt (tgt := 39) hx hb dX5_valueOf_20 (by decide) (fun c2 => ?_) (fun c2 => ?_)
    · have h := if_t c2 h
      refine lv_bipush (v := -9) hx hb dX5_valueOf_39 lb_m9 ?_
      cases h
      exact rt_i K hP hD hS dX5_valueOf_41
    · have h := if_f c2 h
      refine lv_iload_n hx hb dX5_valueOf_23 rfl (lv_at hl 0 rfl) ?_
      refine lv_bipush (v := 102) hx hb dX5_valueOf_24 lb_102 ?_
      refine lv_icmp_gt (tgt := 39) hx hb dX5_valueOf_26 (by decide) (fun c3 => ?_) (fun c3 => ?_)
      · have h := if_t c3 h
        refine lv_bipush (v := -9) hx hb dX5_valueOf_39 lb_m9 ?_
        cases h
        exact rt_i K hP hD hS dX5_valueOf_41
      · have h := if_f c3 h
        refine lv_iload_n hx hb dX5_valueOf_29 rfl (lv_at hl 0 rfl) ?_
        refine lv_bipush (v := 97) hx hb dX5_valueOf_30 lb_97 ?_
        refine lv_isub hx hb dX5_valueOf_32 ?_
        refine lv_bipush (v := 10) hx hb dX5_valueOf_33 lb_10 ?_
        refine lv_iadd hx hb dX5_valueOf_35 ?_
        refine lv_goto (tgt := 41) hx hb dX5_valueOf_36 (by decide) ?_
        cases h
        exact rt_i K hP hD hS dX5_valueOf_41
  · have h := if_f c1 h
    refine lv_iload_n hx hb dX5_valueOf_6 rfl (lv_at hl 0 rfl) ?_
    refine lv_bipush (v := 57) hx hb dX5_valueOf_7 lb_57 ?_
    refine lv_icmp_gt (tgt := 17) hx hb dX5_valueOf_9 (by decide) (fun c4 => ?_) (fun c4 => ?_)
    · have h := if_t c4 h
      refine lv_iload_n hx hb dX5_valueOf_17 rfl (lv_at hl 0 rfl) ?_
      refine lv_bipush (v := 97) hx hb dX5_valueOf_18 lb_97 ?_
      refine lv_icmp_lt (tgt := 39) hx hb dX5_valueOf_20 (by decide) (fun c5 => ?_) (fun c5 => ?_)
      · have h := if_t c5 h
        refine lv_bipush (v := -9) hx hb dX5_valueOf_39 lb_m9 ?_
        cases h
        exact rt_i K hP hD hS dX5_valueOf_41
      · have h := if_f c5 h
        refine lv_iload_n hx hb dX5_valueOf_23 rfl (lv_at hl 0 rfl) ?_
        refine lv_bipush (v := 102) hx hb dX5_valueOf_24 lb_102 ?_
        refine lv_icmp_gt (tgt := 39) hx hb dX5_valueOf_26 (by decide) (fun c6 => ?_) (fun c6 => ?_)
        · have h := if_t c6 h
          refine lv_bipush (v := -9) hx hb dX5_valueOf_39 lb_m9 ?_
          cases h
          exact rt_i K hP hD hS dX5_valueOf_41
        · have h := if_f c6 h
          refine lv_iload_n hx hb dX5_valueOf_29 rfl (lv_at hl 0 rfl) ?_
          refine lv_bipush (v := 97) hx hb dX5_valueOf_30 lb_97 ?_
          refine lv_isub hx hb dX5_valueOf_32 ?_
          refine lv_bipush (v := 10) hx hb dX5_valueOf_33 lb_10 ?_
          refine lv_iadd hx hb dX5_valueOf_35 ?_
          refine lv_goto (tgt := 41) hx hb dX5_valueOf_36 (by decide) ?_
          cases h
          exact rt_i K hP hD hS dX5_valueOf_41
    · have h := if_f c4 h
      refine lv_iload_n hx hb dX5_valueOf_12 rfl (lv_at hl 0 rfl) ?_
      refine lv_bipush (v := 48) hx hb dX5_valueOf_13 lb_48 ?_
      refine lv_isub hx hb dX5_valueOf_15 ?_
      cases h
      exact rt_i K hP hD hS dX5_valueOf_16
