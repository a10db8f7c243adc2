def fX5_valueOf (F : Nat)  (x1 : Int32) : Option (Int32) :=
  if x1 < (48 : Int32) then
    if x1 < (97 : Int32) then
      some (-9 : Int32)
    else
      if (102 : Int32) < x1 then
        some (-9 : Int32)
      else
        some ((x1 - (97 : Int32)) + (10 : Int32))
  else
    if (57 : Int32) < x1 then
      if x1 < (97 : Int32) then
        some (-9 : Int32)
      else
        if (102 : Int32) < x1 then
          some (-9 : Int32)
        else
          some ((x1 - (97 : Int32)) + (10 : Int32))
    else
      some (x1 - (48 : Int32))
theorem cdX5_valueOf : CallD yX5_valueOf 1 := by decide +kernel
set_option maxHeartbeats 4000000 in
set_option maxRecDepth 100000 in
theorem mX5_valueOf (l : Launch) (G : GP) (F : Nat)   (x1 : Int32) {r : Int32} (h : fX5_valueOf F  x1 = some r) : CC l G yX5_valueOf cX5_valueOf 1 (some .int) 1 [.int x1] (List.flatten ([] : List va_W)) (List.flatten ([] : List va_W)) (some (.int r)) := by
  refine CC.of (by decide) (Nat.le_of_ble_eq_true rfl) ?_
  intro p e s m below meth c A K hP hD hS ls hl
  obtain ⟨hx, hb, hr, hml, hts, hown, hlocks, hA, hG⟩ := id K
  have hl : lv_has ls 1 [(0, .int x1)] := hl
  unfold fX5_valueOf at h
  refine lv_iload_n hx hb dX5_valueOf_0 rfl (lv_at hl 0 rfl) ?_
  refine lv_bipush (v := 48) hx hb dX5_valueOf_1 lb_48 ?_
  refine lv_icmp_lt (tgt := 17) hx hb dX5_valueOf_3 (by decide) (fun c1 => ?_) (fun c1 => ?_)
  · have h := if_t c1 h
    refine lv_iload_n hx hb dX5_valueOf_17 rfl (lv_at hl 0 rfl) ?_
    refine lv_bipush (v := 97) hx hb dX5_valueOf_18 lb_97 ?_
    refine lv_icmp_lt (tgt := 39) hx hb dX5_valueOf_20 (by decide) (fun c2 => ?_) (fun c2 => ?_)
    · have h := if_t c2 h
      refine lv_bipush (v := -9) hx hb dX5_valueOf_39 lb_m9 ?_
      cases h
      exact rt_i K hP hD hS dX5_valueOf_41
    · have h := if_f c2 h
      refine lv_iload_n hx hb dX5_valueOf_23 rfl (lv_at hl 0 rfl) ?_
      refine lv_bipush (v := 102) hx hb dX5_valueOf_24 lb_102 ?_
      refine lv_icmp_gt (tgt := 39) hx hb dX5_valueOf_26 (by decide) (fun c3 => ?_) (fun c3 => ?_)
      · have h := if_t c3 h
        refine lv_bipush (v := -9) hx hb dX5_valueOf_39 lb_m9 ?_
        cases h
        exact rt_i K hP hD hS dX5_valueOf_41
      · have h := if_f c3 h
        refine lv_iload_n hx hb dX5_valueOf_29 rfl (lv_at hl 0 rfl) ?_
        refine lv_bipush (v := 97) hx hb dX5_valueOf_30 lb_97 ?_
        refine lv_isub hx hb dX5_valueOf_32 ?_
        refine lv_bipush (v := 10) hx hb dX5_valueOf_33 lb_10 ?_
        refine lv_iadd hx hb dX5_valueOf_35 ?_
        refine lv_goto (tgt := 41) hx hb dX5_valueOf_36 (by decide) ?_
        cases h
        exact rt_i K hP hD hS dX5_valueOf_41
  · have h := if_f c1 h
    refine lv_iload_n hx hb dX5_valueOf_6 rfl (lv_at hl 0 rfl) ?_
    refine lv_bipush (v := 57) hx hb dX5_valueOf_7 lb_57 ?_
    refine lv_icmp_gt (tgt := 17) hx hb dX5_valueOf_9 (by decide) (fun c4 => ?_) (fun c4 => ?_)
    · have h := if_t c4 h
      refine lv_iload_n hx hb dX5_valueOf_17 rfl (lv_at hl 0 rfl) ?_
      refine lv_bipush (v := 97) hx hb dX5_valueOf_18 lb_97 ?_
      refine lv_icmp_lt (tgt := 39) hx hb dX5_valueOf_20 (by decide) (fun c5 => ?_) (fun c5 => ?_)
      · have h := if_t c5 h
        refine lv_bipush (v := -9) hx hb dX5_valueOf_39 lb_m9 ?_
        cases h
        exact rt_i K hP hD hS dX5_valueOf_41
      · have h := if_f c5 h
        refine lv_iload_n hx hb dX5_valueOf_23 rfl (lv_at hl 0 rfl) ?_
        refine lv_bipush (v := 102) hx hb dX5_valueOf_24 lb_102 ?_
        refine lv_icmp_gt (tgt := 39) hx hb dX5_valueOf_26 (by decide) (fun c6 => ?_) (fun c6 => ?_)
        · have h := if_t c6 h
          refine lv_bipush (v := -9) hx hb dX5_valueOf_39 lb_m9 ?_
          cases h
          exact rt_i K hP hD hS dX5_valueOf_41
        · have h := if_f c6 h
          refine lv_iload_n hx hb dX5_valueOf_29 rfl (lv_at hl 0 rfl) ?_
          refine lv_bipush (v := 97) hx hb dX5_valueOf_30 lb_97 ?_
          refine lv_isub hx hb dX5_valueOf_32 ?_
          refine lv_bipush (v := 10) hx hb dX5_valueOf_33 lb_10 ?_
          refine lv_iadd hx hb dX5_valueOf_35 ?_
          refine lv_goto (tgt := 41) hx hb dX5_valueOf_36 (by decide) ?_
          cases h
          exact rt_i K hP hD hS dX5_valueOf_41
    · have h := if_f c4 h
      refine lv_iload_n hx hb dX5_valueOf_12 rfl (lv_at hl 0 rfl) ?_
      refine lv_bipush (v := 48) hx hb dX5_valueOf_13 lb_48 ?_
      refine lv_isub hx hb dX5_valueOf_15 ?_
      cases h
      exact rt_i K hP hD hS dX5_valueOf_16
def fX5_signsOfPart (F : Nat) (σee : ST)  : Option (Int32) :=
  if (σee.1 3) = 66 then
    some (3 : Int32)
  else
  if (σee.1 3) = 76 then
    some (2 : Int32)
  else
    some (4 : Int32)
theorem cdX5_signsOfPart : CallD yX5_signsOfPart 0 := by decide +kernel
set_option maxHeartbeats 4000000 in
set_option maxRecDepth 100000 in
theorem mX5_signsOfPart (l : Launch) (G : GP) (F : Nat) (ee : Nat → Nat) (ee_draft : Nat) (σee : ST)  {r : Int32} (h : fX5_signsOfPart F σee  = some r) : CC l G yX5_signsOfPart cX5_signsOfPart 1 (some .int) 1 [.ref (ee 0)] (List.flatten [wE G ee ee_draft σee]) (List.flatten [wE G ee ee_draft σee]) (some (.int r)) := by
  refine CC.of (by decide) (Nat.le_of_ble_eq_true rfl) ?_
  intro p e s m below meth c A K hP hD hS ls hl
  obtain ⟨hx, hb, hr, hml, hts, hown, hlocks, hA, hG⟩ := id K
  have hl : lv_has ls 1 [(0, .ref (ee 0))] := hl
  unfold fX5_signsOfPart at h
  refine lv_aload_n hx hb dX5_signsOfPart_0 rfl (lv_at hl 0 rfl) ?_
  refine va_get (D := G.1) (cl := vwCl) (tys := tysG G) (ci := 5) (v := .int (σee.1 3)) (C := RX5) (T := TX5) (N := 5) hx hb hts iX5 hown hG.1 hP 0 rfl rfl 3 (Nat.le_of_ble_eq_true rfl) (hts _ tw_1_139) (fun _ h9 => h9) rfl dX5_signsOfPart_1 ?_
  by_cases c1 : (σee.1 3) = 66
  · have h := if_t c1 h
    refine lv_lookup (off := 28) (tgt := 32) hx hb dX5_signsOfPart_4 (by decide) (by rw [c1] <;> rfl) (by decide) ?_
    refine lv_iconst (v := 3) hx hb dX5_signsOfPart_32 li_3 ?_
    cases h
    exact rt_i K hP hD hS dX5_signsOfPart_33
  have h := if_f c1 h
  by_cases c2 : (σee.1 3) = 76
  · have h := if_t c2 h
    refine lv_lookup (off := 30) (tgt := 34) hx hb dX5_signsOfPart_4 (by decide) (by rw [c2] <;> rfl) (by decide) ?_
    refine lv_iconst (v := 2) hx hb dX5_signsOfPart_34 li_2 ?_
    cases h
    exact rt_i K hP hD hS dX5_signsOfPart_35
  have h := if_f c2 h
  refine lv_lookup (off := 32) (tgt := 36) hx hb dX5_signsOfPart_4 (by decide) ((lv_osw c1 rfl).trans ((lv_osw c2 rfl).trans rfl)) (by decide) ?_
  refine lv_iconst (v := 4) hx hb dX5_signsOfPart_36 li_4 ?_
  cases h
  exact rt_i K hP hD hS dX5_signsOfPart_37
def fX5_allowsInRange (F : Nat) (σee : ST) (x1 : Int32) (x2 : Int32) : Option (Int32) :=
  if (σee.1 2) = (1 : Int32) then
    if x1 < (σee.2.1 1 (0 : Int32).toNatClampNeg) then
      some (0 : Int32)
    else
      if (2 : Int32) ≤ (σee.1 2) then
        (fX10_isBelow F x1 x2).bind fun r21 =>
        if r21 = 0 then
          some (0 : Int32)
        else
          some (1 : Int32)
      else
        (fX10_isBelow F x1 (10 : Int32)).bind fun r24 =>
        if r24 = 0 then
          some (0 : Int32)
        else
          some (1 : Int32)
  else
    if (σee.1 2) = (3 : Int32) then
      if x1 < (σee.2.1 1 (2 : Int32).toNatClampNeg) then
        some (0 : Int32)
      else
        if (2 : Int32) ≤ (σee.1 2) then
          (fX10_isBelow F x1 x2).bind fun r13 =>
          if r13 = 0 then
            some (0 : Int32)
          else
            some (1 : Int32)
        else
          (fX10_isBelow F x1 (10 : Int32)).bind fun r16 =>
          if r16 = 0 then
            some (0 : Int32)
          else
            some (1 : Int32)
    else
      if x1 < (0 : Int32) then
        some (0 : Int32)
      else
        if (2 : Int32) ≤ (σee.1 2) then
          (fX10_isBelow F x1 x2).bind fun r5 =>
          if r5 = 0 then
            some (0 : Int32)
          else
            some (1 : Int32)
        else
          (fX10_isBelow F x1 (10 : Int32)).bind fun r8 =>
          if r8 = 0 then
            some (0 : Int32)
          else
            some (1 : Int32)
theorem cdX5_allowsInRange : CallD yX5_allowsInRange 2 := by decide +kernel
set_option maxHeartbeats 4000000 in
set_option maxRecDepth 100000 in
theorem mX5_allowsInRange (l : Launch) (G : GP) (F : Nat) (ee : Nat → Nat) (ee_draft : Nat) (σee : ST) (x1 : Int32) (x2 : Int32) {r : Int32} (h : fX5_allowsInRange F σee x1 x2 = some r) : CC l G yX5_allowsInRange cX5_allowsInRange 4 (some .boolean) 2 [.ref (ee 0), .int x1, .int x2] (List.flatten [wE G ee ee_draft σee]) (List.flatten [wE G ee ee_draft σee]) (some (.int r)) := by
  refine CC.of (by decide) (Nat.le_of_ble_eq_true rfl) ?_
  intro p e s m below meth c A K hP hD hS ls hl
  obtain ⟨hx, hb, hr, hml, hts, hown, hlocks, hA, hG⟩ := id K
  have hl : lv_has ls 4 [(0, .ref (ee 0)), (1, .int x1), (2, .int x2)] := hl
  unfold fX5_allowsInRange at h
  refine lv_aload_n hx hb dX5_allowsInRange_0 rfl (lv_at hl 0 rfl) ?_
  refine va_get (D := G.1) (cl := vwCl) (tys := tysG G) (ci := 5) (v := .int (σee.1 2)) (C := RX5) (T := TX5) (N := 5) hx hb hts iX5 hown hG.1 hP 0 rfl rfl 2 (Nat.le_of_ble_eq_true rfl) (hts _ tw_1_138) (fun _ h9 => h9) rfl dX5_allowsInRange_1 ?_
  refine lv_iconst (v := 1) hx hb dX5_allowsInRange_4 li_1 ?_
  refine lv_icmp_ne (tgt := 17) hx hb dX5_allowsInRange_5 (by decide) (fun c1 => ?_) (fun c1 => ?_)
  · have h := if_f c1 h
    refine lv_aload_n hx hb dX5_allowsInRange_17 rfl (lv_at hl 0 rfl) ?_
    refine va_get (D := G.1) (cl := vwCl) (tys := tysG G) (ci := 5) (v := .int (σee.1 2)) (C := RX5) (T := TX5) (N := 5) hx hb hts iX5 hown hG.1 hP 0 rfl rfl 2 (Nat.le_of_ble_eq_true rfl) (hts _ tw_1_138) (fun _ h9 => h9) rfl dX5_allowsInRange_18 ?_
    refine lv_iconst (v := 3) hx hb dX5_allowsInRange_21 li_3 ?_
    refine lv_icmp_ne (tgt := 34) hx hb dX5_allowsInRange_22 (by decide) (fun c2 => ?_) (fun c2 => ?_)
    · have h := if_f c2 h
      refine lv_iconst (v := 0) hx hb dX5_allowsInRange_34 li_0 ?_
      refine lv_istore_n (lv' := [(3, .int (0 : Int32)), (0, .ref (ee 0)), (1, .int x1), (2, .int x2)]) hx hb dX5_allowsInRange_35 rfl hl (Nat.le_of_ble_eq_true rfl) rfl (fun ls hl => ?_)
      refine lv_iload_n hx hb dX5_allowsInRange_36 rfl (lv_at hl 2 rfl) ?_
      refine lv_iload_n hx hb dX5_allowsInRange_37 rfl (lv_at hl 0 rfl) ?_
      refine lv_icmp_lt (tgt := 66) hx hb dX5_allowsInRange_38 (by decide) (fun c3 => ?_) (fun c3 => ?_)
      · have h := if_t c3 h
        refine lv_iconst (v := 0) hx hb dX5_allowsInRange_66 li_0 ?_
        cases h
        exact rt_z K (Or.inl rfl) hP hD hS dX5_allowsInRange_67
      · have h := if_f c3 h
        refine lv_iload_n hx hb dX5_allowsInRange_41 rfl (lv_at hl 2 rfl) ?_
        refine lv_aload_n hx hb dX5_allowsInRange_42 rfl (lv_at hl 1 rfl) ?_
        refine va_get (D := G.1) (cl := vwCl) (tys := tysG G) (ci := 5) (v := .int (σee.1 2)) (C := RX5) (T := TX5) (N := 5) hx hb hts iX5 hown hG.1 hP 0 rfl rfl 2 (Nat.le_of_ble_eq_true rfl) (hts _ tw_1_138) (fun _ h9 => h9) rfl dX5_allowsInRange_43 ?_
        refine lv_iconst (v := 2) hx hb dX5_allowsInRange_46 li_2 ?_
        refine lv_icmp_ge (tgt := 55) hx hb dX5_allowsInRange_47 (by decide) (fun c4 => ?_) (fun c4 => ?_)
        · have h := if_t c4 h
          refine lv_iload_n hx hb dX5_allowsInRange_55 rfl (lv_at hl 3 rfl) ?_
          obtain ⟨r5, hc6, h⟩ := bd_ex h
          refine sl_SN K (mX10_isBelow l G F x1 x2 hc6) tw_2_194 tw_1_1 tw_2_193 tw_2_192 cdX10_isBelow ⟨Nat.le_of_ble_eq_true rfl, Nat.le_of_ble_eq_true rfl⟩ hP hD hS [] rfl rfl rfl rfl hl.1 (Nat.le_of_ble_eq_true rfl) ⟨Nat.zero_le _, Nat.zero_le _⟩ dX5_allowsInRange_56 (fun H locs hP hD hS => ?_)
          have hP : va_P G.1 vwCl (List.flatten [wE G ee ee_draft σee]) H := hP
          have hD : va_D A (List.flatten [wE G ee ee_draft σee]) := hD
          refine lv_if_eq (tgt := 66) hx hb dX5_allowsInRange_59 (by decide) (fun c7 => ?_) (fun c7 => ?_)
          · have h := if_t c7 h
            refine lv_iconst (v := 0) hx hb dX5_allowsInRange_66 li_0 ?_
            cases h
            exact rt_z K (Or.inl rfl) hP hD hS dX5_allowsInRange_67
          · have h := if_f c7 h
            refine lv_iconst (v := 1) hx hb dX5_allowsInRange_62 li_1 ?_
            refine lv_goto (tgt := 67) hx hb dX5_allowsInRange_63 (by decide) ?_
            cases h
            exact rt_z K (Or.inr rfl) hP hD hS dX5_allowsInRange_67
        · have h := if_f c4 h
          refine lv_bipush (v := 10) hx hb dX5_allowsInRange_50 lb_10 ?_
          refine lv_goto (tgt := 56) hx hb dX5_allowsInRange_52 (by decide) ?_
          obtain ⟨r8, hc9, h⟩ := bd_ex h
          refine sl_SN K (mX10_isBelow l G F x1 (10 : Int32) hc9) tw_2_194 tw_1_1 tw_2_193 tw_2_192 cdX10_isBelow ⟨Nat.le_of_ble_eq_true rfl, Nat.le_of_ble_eq_true rfl⟩ hP hD hS [] rfl rfl rfl rfl hl.1 (Nat.le_of_ble_eq_true rfl) ⟨Nat.zero_le _, Nat.zero_le _⟩ dX5_allowsInRange_56 (fun H locs hP hD hS => ?_)
          have hP : va_P G.1 vwCl (List.flatten [wE G ee ee_draft σee]) H := hP
          have hD : va_D A (List.flatten [wE G ee ee_draft σee]) := hD
          refine lv_if_eq (tgt := 66) hx hb dX5_allowsInRange_59 (by decide) (fun c10 => ?_) (fun c10 => ?_)
          · have h := if_t c10 h
            refine lv_iconst (v := 0) hx hb dX5_allowsInRange_66 li_0 ?_
            cases h
            exact rt_z K (Or.inl rfl) hP hD hS dX5_allowsInRange_67
          · have h := if_f c10 h
            refine lv_iconst (v := 1) hx hb dX5_allowsInRange_62 li_1 ?_
            refine lv_goto (tgt := 67) hx hb dX5_allowsInRange_63 (by decide) ?_
            cases h
            exact rt_z K (Or.inr rfl) hP hD hS dX5_allowsInRange_67
    · have h := if_t c2 h
      refine lv_aload_n hx hb dX5_allowsInRange_25 rfl (lv_at hl 0 rfl) ?_
      refine va_get (D := G.1) (cl := vwCl) (tys := tysG G) (ci := 5) (v := .ref (ee 2)) (C := RX5) (T := TX5) (N := 5) hx hb hts iX5 hown hG.1 hP 0 rfl rfl 1 (Nat.le_of_ble_eq_true rfl) (hts _ tw_1_137) (fun _ h9 => h9) rfl dX5_allowsInRange_26 ?_
      refine lv_iconst (v := 2) hx hb dX5_allowsInRange_29 li_2 ?_
      refine va_iald hx hb hG.1 hP 1 0 rfl rfl (vpi (by decide)) dX5_allowsInRange_30 ?_
      refine lv_goto (tgt := 35) hx hb dX5_allowsInRange_31 (by decide) ?_
      refine lv_istore_n (lv' := [(3, .int (σee.2.1 1 (2 : Int32).toNatClampNeg)), (0, .ref (ee 0)), (1, .int x1), (2, .int x2)]) hx hb dX5_allowsInRange_35 rfl hl (Nat.le_of_ble_eq_true rfl) rfl (fun ls hl => ?_)
      refine lv_iload_n hx hb dX5_allowsInRange_36 rfl (lv_at hl 2 rfl) ?_
      refine lv_iload_n hx hb dX5_allowsInRange_37 rfl (lv_at hl 0 rfl) ?_
      refine lv_icmp_lt (tgt := 66) hx hb dX5_allowsInRange_38 (by decide) (fun c11 => ?_) (fun c11 => ?_)
      · have h := if_t c11 h
        refine lv_iconst (v := 0) hx hb dX5_allowsInRange_66 li_0 ?_
        cases h
        exact rt_z K (Or.inl rfl) hP hD hS dX5_allowsInRange_67
      · have h := if_f c11 h
        refine lv_iload_n hx hb dX5_allowsInRange_41 rfl (lv_at hl 2 rfl) ?_
        refine lv_aload_n hx hb dX5_allowsInRange_42 rfl (lv_at hl 1 rfl) ?_
        refine va_get (D := G.1) (cl := vwCl) (tys := tysG G) (ci := 5) (v := .int (σee.1 2)) (C := RX5) (T := TX5) (N := 5) hx hb hts iX5 hown hG.1 hP 0 rfl rfl 2 (Nat.le_of_ble_eq_true rfl) (hts _ tw_1_138) (fun _ h9 => h9) rfl dX5_allowsInRange_43 ?_
        refine lv_iconst (v := 2) hx hb dX5_allowsInRange_46 li_2 ?_
        refine lv_icmp_ge (tgt := 55) hx hb dX5_allowsInRange_47 (by decide) (fun c12 => ?_) (fun c12 => ?_)
        · have h := if_t c12 h
          refine lv_iload_n hx hb dX5_allowsInRange_55 rfl (lv_at hl 3 rfl) ?_
          obtain ⟨r13, hc14, h⟩ := bd_ex h
          refine sl_SN K (mX10_isBelow l G F x1 x2 hc14) tw_2_194 tw_1_1 tw_2_193 tw_2_192 cdX10_isBelow ⟨Nat.le_of_ble_eq_true rfl, Nat.le_of_ble_eq_true rfl⟩ hP hD hS [] rfl rfl rfl rfl hl.1 (Nat.le_of_ble_eq_true rfl) ⟨Nat.zero_le _, Nat.zero_le _⟩ dX5_allowsInRange_56 (fun H locs hP hD hS => ?_)
          have hP : va_P G.1 vwCl (List.flatten [wE G ee ee_draft σee]) H := hP
          have hD : va_D A (List.flatten [wE G ee ee_draft σee]) := hD
          refine lv_if_eq (tgt := 66) hx hb dX5_allowsInRange_59 (by decide) (fun c15 => ?_) (fun c15 => ?_)
          · have h := if_t c15 h
            refine lv_iconst (v := 0) hx hb dX5_allowsInRange_66 li_0 ?_
            cases h
            exact rt_z K (Or.inl rfl) hP hD hS dX5_allowsInRange_67
          · have h := if_f c15 h
            refine lv_iconst (v := 1) hx hb dX5_allowsInRange_62 li_1 ?_
            refine lv_goto (tgt := 67) hx hb dX5_allowsInRange_63 (by decide) ?_
            cases h
            exact rt_z K (Or.inr rfl) hP hD hS dX5_allowsInRange_67
        · have h := if_f c12 h
          refine lv_bipush (v := 10) hx hb dX5_allowsInRange_50 lb_10 ?_
          refine lv_goto (tgt := 56) hx hb dX5_allowsInRange_52 (by decide) ?_
          obtain ⟨r16, hc17, h⟩ := bd_ex h
          refine sl_SN K (mX10_isBelow l G F x1 (10 : Int32) hc17) tw_2_194 tw_1_1 tw_2_193 tw_2_192 cdX10_isBelow ⟨Nat.le_of_ble_eq_true rfl, Nat.le_of_ble_eq_true rfl⟩ hP hD hS [] rfl rfl rfl rfl hl.1 (Nat.le_of_ble_eq_true rfl) ⟨Nat.zero_le _, Nat.zero_le _⟩ dX5_allowsInRange_56 (fun H locs hP hD hS => ?_)
          have hP : va_P G.1 vwCl (List.flatten [wE G ee ee_draft σee]) H := hP
          have hD : va_D A (List.flatten [wE G ee ee_draft σee]) := hD
          refine lv_if_eq (tgt := 66) hx hb dX5_allowsInRange_59 (by decide) (fun c18 => ?_) (fun c18 => ?_)
          · have h := if_t c18 h
            refine lv_iconst (v := 0) hx hb dX5_allowsInRange_66 li_0 ?_
            cases h
            exact rt_z K (Or.inl rfl) hP hD hS dX5_allowsInRange_67
          · have h := if_f c18 h
            refine lv_iconst (v := 1) hx hb dX5_allowsInRange_62 li_1 ?_
            refine lv_goto (tgt := 67) hx hb dX5_allowsInRange_63 (by decide) ?_
            cases h
            exact rt_z K (Or.inr rfl) hP hD hS dX5_allowsInRange_67
  · have h := if_t c1 h
    refine lv_aload_n hx hb dX5_allowsInRange_8 rfl (lv_at hl 0 rfl) ?_
    refine va_get (D := G.1) (cl := vwCl) (tys := tysG G) (ci := 5) (v := .ref (ee 2)) (C := RX5) (T := TX5) (N := 5) hx hb hts iX5 hown hG.1 hP 0 rfl rfl 1 (Nat.le_of_ble_eq_true rfl) (hts _ tw_1_137) (fun _ h9 => h9) rfl dX5_allowsInRange_9 ?_
    refine lv_iconst (v := 0) hx hb dX5_allowsInRange_12 li_0 ?_
    refine va_iald hx hb hG.1 hP 1 0 rfl rfl (vpi (by decide)) dX5_allowsInRange_13 ?_
    refine lv_goto (tgt := 35) hx hb dX5_allowsInRange_14 (by decide) ?_
    refine lv_istore_n (lv' := [(3, .int (σee.2.1 1 (0 : Int32).toNatClampNeg)), (0, .ref (ee 0)), (1, .int x1), (2, .int x2)]) hx hb dX5_allowsInRange_35 rfl hl (Nat.le_of_ble_eq_true rfl) rfl (fun ls hl => ?_)
    refine lv_iload_n hx hb dX5_allowsInRange_36 rfl (lv_at hl 2 rfl) ?_
    refine lv_iload_n hx hb dX5_allowsInRange_37 rfl (lv_at hl 0 rfl) ?_
    refine lv_icmp_lt (tgt := 66) hx hb dX5_allowsInRange_38 (by decide) (fun c19 => ?_) (fun c19 => ?_)
    · have h := if_t c19 h
      refine lv_iconst (v := 0) hx hb dX5_allowsInRange_66 li_0 ?_
      cases h
      exact rt_z K (Or.inl rfl) hP hD hS dX5_allowsInRange_67
    · have h := if_f c19 h
      refine lv_iload_n hx hb dX5_allowsInRange_41 rfl (lv_at hl 2 rfl) ?_
      refine lv_aload_n hx hb dX5_allowsInRange_42 rfl (lv_at hl 1 rfl) ?_
      refine va_get (D := G.1) (cl := vwCl) (tys := tysG G) (ci := 5) (v := .int (σee.1 2)) (C := RX5) (T := TX5) (N := 5) hx hb hts iX5 hown hG.1 hP 0 rfl rfl 2 (Nat.le_of_ble_eq_true rfl) (hts _ tw_1_138) (fun _ h9 => h9) rfl dX5_allowsInRange_43 ?_
      refine lv_iconst (v := 2) hx hb dX5_allowsInRange_46 li_2 ?_
      refine lv_icmp_ge (tgt := 55) hx hb dX5_allowsInRange_47 (by decide) (fun c20 => ?_) (fun c20 => ?_)
      · have h := if_t c20 h
        refine lv_iload_n hx hb dX5_allowsInRange_55 rfl (lv_at hl 3 rfl) ?_
        obtain ⟨r21, hc22, h⟩ := bd_ex h
        refine sl_SN K (mX10_isBelow l G F x1 x2 hc22) tw_2_194 tw_1_1 tw_2_193 tw_2_192 cdX10_isBelow ⟨Nat.le_of_ble_eq_true rfl, Nat.le_of_ble_eq_true rfl⟩ hP hD hS [] rfl rfl rfl rfl hl.1 (Nat.le_of_ble_eq_true rfl) ⟨Nat.zero_le _, Nat.zero_le _⟩ dX5_allowsInRange_56 (fun H locs hP hD hS => ?_)
        have hP : va_P G.1 vwCl (List.flatten [wE G ee ee_draft σee]) H := hP
        have hD : va_D A (List.flatten [wE G ee ee_draft σee]) := hD
        refine lv_if_eq (tgt := 66) hx hb dX5_allowsInRange_59 (by decide) (fun c23 => ?_) (fun c23 => ?_)
        · have h := if_t c23 h
          refine lv_iconst (v := 0) hx hb dX5_allowsInRange_66 li_0 ?_
          cases h
          exact rt_z K (Or.inl rfl) hP hD hS dX5_allowsInRange_67
        · have h := if_f c23 h
          refine lv_iconst (v := 1) hx hb dX5_allowsInRange_62 li_1 ?_
          refine lv_goto (tgt := 67) hx hb dX5_allowsInRange_63 (by decide) ?_
          cases h
          exact rt_z K (Or.inr rfl) hP hD hS dX5_allowsInRange_67
      · have h := if_f c20 h
        refine lv_bipush (v := 10) hx hb dX5_allowsInRange_50 lb_10 ?_
        refine lv_goto (tgt := 56) hx hb dX5_allowsInRange_52 (by decide) ?_
        obtain ⟨r24, hc25, h⟩ := bd_ex h
        refine sl_SN K (mX10_isBelow l G F x1 (10 : Int32) hc25) tw_2_194 tw_1_1 tw_2_193 tw_2_192 cdX10_isBelow ⟨Nat.le_of_ble_eq_true rfl, Nat.le_of_ble_eq_true rfl⟩ hP hD hS [] rfl rfl rfl rfl hl.1 (Nat.le_of_ble_eq_true rfl) ⟨Nat.zero_le _, Nat.zero_le _⟩ dX5_allowsInRange_56 (fun H locs hP hD hS => ?_)
        have hP : va_P G.1 vwCl (List.flatten [wE G ee ee_draft σee]) H := hP
        have hD : va_D A (List.flatten [wE G ee ee_draft σee]) := hD
        refine lv_if_eq (tgt := 66) hx hb dX5_allowsInRange_59 (by decide) (fun c26 => ?_) (fun c26 => ?_)
        · have h := if_t c26 h
          refine lv_iconst (v := 0) hx hb dX5_allowsInRange_66 li_0 ?_
          cases h
          exact rt_z K (Or.inl rfl) hP hD hS dX5_allowsInRange_67
        · have h := if_f c26 h
          refine lv_iconst (v := 1) hx hb dX5_allowsInRange_62 li_1 ?_
          refine lv_goto (tgt := 67) hx hb dX5_allowsInRange_63 (by decide) ?_
          cases h
          exact rt_z K (Or.inr rfl) hP hD hS dX5_allowsInRange_67
def fX5_opensPart (F : Nat) (σee : ST) (σbb : ST) (σdd : ST) (x1 : Int32) : Option (Int32) :=
  if x1 = 66 then
    if (8 : Int32) ≤ (σbb.1 3) then
      some (0 : Int32)
    else
      some (1 : Int32)
  else
  if x1 = 72 then
    if (3 : Int32) ≤ (σdd.1 3) then
      some (0 : Int32)
    else
      some (1 : Int32)
  else
  if x1 = 76 then
    if (σdd.1 5) = (63 : Int32) then
      some (0 : Int32)
    else
      some (1 : Int32)
  else
  if x1 = 79 then
    if (4 : Int32) ≤ (σdd.1 4) then
      some (0 : Int32)
    else
      some (1 : Int32)
  else
    some (0 : Int32)
theorem cdX5_opensPart : CallD yX5_opensPart 1 := by decide +kernel
set_option maxHeartbeats 4000000 in
set_option maxRecDepth 100000 in
theorem mX5_opensPart (l : Launch) (G : GP) (F : Nat) (ee : Nat → Nat) (ff : Nat) (bb : Nat → Nat) (dd : Nat → Nat) (σee : ST) (σbb : ST) (σdd : ST) (x1 : Int32) {r : Int32} (h : fX5_opensPart F σee σbb σdd x1 = some r) : CC l G yX5_opensPart cX5_opensPart 2 (some .boolean) 1 [.ref (ee 0), .int x1] (List.flatten [wE G ee ff σee, wF ff (bb 0) (dd 0), wB G bb σbb, wD G dd σdd]) (List.flatten [wE G ee ff σee, wF ff (bb 0) (dd 0), wB G bb σbb, wD G dd σdd]) (some (.int r)) := by
  refine CC.of (by decide) (Nat.le_of_ble_eq_true rfl) ?_
  intro p e s m below meth c A K hP hD hS ls hl
  obtain ⟨hx, hb, hr, hml, hts, hown, hlocks, hA, hG⟩ := id K
  have hl : lv_has ls 2 [(0, .ref (ee 0)), (1, .int x1)] := hl
  unfold fX5_opensPart at h
  refine lv_iload_n hx hb dX5_opensPart_0 rfl (lv_at hl 1 rfl) ?_
  by_cases c1 : x1 = 66
  · have h := if_t c1 h
    refine lv_lookup (off := 43) (tgt := 44) hx hb dX5_opensPart_1 (by decide) (by rw [c1] <;> rfl) (by decide) ?_
    refine lv_aload_n hx hb dX5_opensPart_44 rfl (lv_at hl 0 rfl) ?_
    refine va_get (D := G.1) (cl := vwCl) (tys := tysG G) (ci := 5) (v := .ref ff) (C := RX5) (T := TX5) (N := 5) hx hb hts iX5 hown hG.1 hP 0 rfl rfl 0 (Nat.le_of_ble_eq_true rfl) (hts _ tw_1_135) (fun _ h9 => h9) rfl dX5_opensPart_45 ?_
    refine va_get (D := G.1) (cl := vwCl) (tys := tysG G) (ci := 2) (v := .ref (bb 0)) (C := RX2) (T := TX2) (N := 2) hx hb hts iX2 hown hG.1 hP 2 rfl rfl 0 (Nat.le_of_ble_eq_true rfl) (hts _ tw_1_124) (fun _ h9 => h9) rfl dX5_opensPart_48 ?_
    refine va_get (D := G.1) (cl := vwCl) (tys := tysG G) (ci := 1) (v := .int (σbb.1 3)) (C := RX1) (T := TX1) (N := 4) hx hb hts iX1 hown hG.1 hP 3 rfl rfl 3 (Nat.le_of_ble_eq_true rfl) (hts _ tw_1_76) (fun _ h9 => h9) rfl dX5_opensPart_51 ?_
    refine lv_bipush (v := 8) hx hb dX5_opensPart_54 lb_8 ?_
    refine lv_icmp_ge (tgt := 63) hx hb dX5_opensPart_56 (by decide) (fun c2 => ?_) (fun c2 => ?_)
    · have h := if_t c2 h
      refine lv_iconst (v := 0) hx hb dX5_opensPart_63 li_0 ?_
      cases h
      exact rt_z K (Or.inl rfl) hP hD hS dX5_opensPart_64
    · have h := if_f c2 h
      refine lv_iconst (v := 1) hx hb dX5_opensPart_59 li_1 ?_
      refine lv_goto (tgt := 64) hx hb dX5_opensPart_60 (by decide) ?_
      cases h
      exact rt_z K (Or.inr rfl) hP hD hS dX5_opensPart_64
  have h := if_f c1 h
  by_cases c3 : x1 = 72
  · have h := if_t c3 h
    refine lv_lookup (off := 64) (tgt := 65) hx hb dX5_opensPart_1 (by decide) (by rw [c3] <;> rfl) (by decide) ?_
    refine lv_aload_n hx hb dX5_opensPart_65 rfl (lv_at hl 0 rfl) ?_
    refine va_get (D := G.1) (cl := vwCl) (tys := tysG G) (ci := 5) (v := .ref ff) (C := RX5) (T := TX5) (N := 5) hx hb hts iX5 hown hG.1 hP 0 rfl rfl 0 (Nat.le_of_ble_eq_true rfl) (hts _ tw_1_135) (fun _ h9 => h9) rfl dX5_opensPart_66 ?_
    refine va_get (D := G.1) (cl := vwCl) (tys := tysG G) (ci := 2) (v := .ref (dd 0)) (C := RX2) (T := TX2) (N := 2) hx hb hts iX2 hown hG.1 hP 2 rfl rfl 1 (Nat.le_of_ble_eq_true rfl) (hts _ tw_1_128) (fun _ h9 => h9) rfl dX5_opensPart_69 ?_
    refine va_get (D := G.1) (cl := vwCl) (tys := tysG G) (ci := 4) (v := .int (σdd.1 3)) (C := RX4) (T := TX4) (N := 6) hx hb hts iX4 hown hG.1 hP 7 rfl rfl 3 (Nat.le_of_ble_eq_true rfl) (hts _ tw_1_101) (fun _ h9 => h9) rfl dX5_opensPart_72 ?_
    refine lv_iconst (v := 3) hx hb dX5_opensPart_75 li_3 ?_
    refine lv_icmp_ge (tgt := 83) hx hb dX5_opensPart_76 (by decide) (fun c4 => ?_) (fun c4 => ?_)
    · have h := if_t c4 h
      refine lv_iconst (v := 0) hx hb dX5_opensPart_83 li_0 ?_
      cases h
      exact rt_z K (Or.inl rfl) hP hD hS dX5_opensPart_84
    · have h := if_f c4 h
      refine lv_iconst (v := 1) hx hb dX5_opensPart_79 li_1 ?_
      refine lv_goto (tgt := 84) hx hb dX5_opensPart_80 (by decide) ?_
      cases h
      exact rt_z K (Or.inr rfl) hP hD hS dX5_opensPart_84
  have h := if_f c3 h
  by_cases c5 : x1 = 76
  · have h := if_t c5 h
    refine lv_lookup (off := 84) (tgt := 85) hx hb dX5_opensPart_1 (by decide) (by rw [c5] <;> rfl) (by decide) ?_
    refine lv_aload_n hx hb dX5_opensPart_85 rfl (lv_at hl 0 rfl) ?_
    refine va_get (D := G.1) (cl := vwCl) (tys := tysG G) (ci := 5) (v := .ref ff) (C := RX5) (T := TX5) (N := 5) hx hb hts iX5 hown hG.1 hP 0 rfl rfl 0 (Nat.le_of_ble_eq_true rfl) (hts _ tw_1_135) (fun _ h9 => h9) rfl dX5_opensPart_86 ?_
    refine va_get (D := G.1) (cl := vwCl) (tys := tysG G) (ci := 2) (v := .ref (dd 0)) (C := RX2) (T := TX2) (N := 2) hx hb hts iX2 hown hG.1 hP 2 rfl rfl 1 (Nat.le_of_ble_eq_true rfl) (hts _ tw_1_128) (fun _ h9 => h9) rfl dX5_opensPart_89 ?_
    refine va_get (D := G.1) (cl := vwCl) (tys := tysG G) (ci := 4) (v := .int (σdd.1 5)) (C := RX4) (T := TX4) (N := 6) hx hb hts iX4 hown hG.1 hP 7 rfl rfl 5 (Nat.le_of_ble_eq_true rfl) (hts _ tw_1_108) (fun _ h9 => h9) rfl dX5_opensPart_92 ?_
    refine lv_bipush (v := 63) hx hb dX5_opensPart_95 lb_63 ?_
    refine lv_icmp_eq (tgt := 104) hx hb dX5_opensPart_97 (by decide) (fun c6 => ?_) (fun c6 => ?_)
    · have h := if_t c6 h
      refine lv_iconst (v := 0) hx hb dX5_opensPart_104 li_0 ?_
      cases h
      exact rt_z K (Or.inl rfl) hP hD hS dX5_opensPart_105
    · have h := if_f c6 h
      refine lv_iconst (v := 1) hx hb dX5_opensPart_100 li_1 ?_
      refine lv_goto (tgt := 105) hx hb dX5_opensPart_101 (by decide) ?_
      cases h
      exact rt_z K (Or.inr rfl) hP hD hS dX5_opensPart_105
  have h := if_f c5 h
  by_cases c7 : x1 = 79
  · have h := if_t c7 h
    refine lv_lookup (off := 105) (tgt := 106) hx hb dX5_opensPart_1 (by decide) (by rw [c7] <;> rfl) (by decide) ?_
    refine lv_aload_n hx hb dX5_opensPart_106 rfl (lv_at hl 0 rfl) ?_
    refine va_get (D := G.1) (cl := vwCl) (tys := tysG G) (ci := 5) (v := .ref ff) (C := RX5) (T := TX5) (N := 5) hx hb hts iX5 hown hG.1 hP 0 rfl rfl 0 (Nat.le_of_ble_eq_true rfl) (hts _ tw_1_135) (fun _ h9 => h9) rfl dX5_opensPart_107 ?_
    refine va_get (D := G.1) (cl := vwCl) (tys := tysG G) (ci := 2) (v := .ref (dd 0)) (C := RX2) (T := TX2) (N := 2) hx hb hts iX2 hown hG.1 hP 2 rfl rfl 1 (Nat.le_of_ble_eq_true rfl) (hts _ tw_1_128) (fun _ h9 => h9) rfl dX5_opensPart_110 ?_
    refine va_get (D := G.1) (cl := vwCl) (tys := tysG G) (ci := 4) (v := .int (σdd.1 4)) (C := RX4) (T := TX4) (N := 6) hx hb hts iX4 hown hG.1 hP 7 rfl rfl 4 (Nat.le_of_ble_eq_true rfl) (hts _ tw_1_105) (fun _ h9 => h9) rfl dX5_opensPart_113 ?_
    refine lv_iconst (v := 4) hx hb dX5_opensPart_116 li_4 ?_
    refine lv_icmp_ge (tgt := 124) hx hb dX5_opensPart_117 (by decide) (fun c8 => ?_) (fun c8 => ?_)
    · have h := if_t c8 h
      refine lv_iconst (v := 0) hx hb dX5_opensPart_124 li_0 ?_
      cases h
      exact rt_z K (Or.inl rfl) hP hD hS dX5_opensPart_125
    · have h := if_f c8 h
      refine lv_iconst (v := 1) hx hb dX5_opensPart_120 li_1 ?_
      refine lv_goto (tgt := 125) hx hb dX5_opensPart_121 (by decide) ?_
      cases h
      exact rt_z K (Or.inr rfl) hP hD hS dX5_opensPart_125
  have h := if_f c7 h
  refine lv_lookup (off := 125) (tgt := 126) hx hb dX5_opensPart_1 (by decide) ((lv_osw c1 rfl).trans ((lv_osw c3 rfl).trans ((lv_osw c5 rfl).trans ((lv_osw c7 rfl).trans rfl)))) (by decide) ?_
  refine lv_iconst (v := 0) hx hb dX5_opensPart_126 li_0 ?_
  cases h
  exact rt_z K (Or.inl rfl) hP hD hS dX5_opensPart_127
def fX5_allowsForBody (F : Nat) (σee : ST) (σbb : ST) (σdd : ST) (x1 : Int32) : Option (Int32) :=
  if (σee.1 2) = 0 then
    (fX10_isBelow F x1 (6 : Int32)).bind fun r15 =>
    if ¬ (r15 = 0 ∨ r15 = 1) then none else
    some r15
  else
    if (σee.1 2) = (1 : Int32) then
      (fX10_isBelow F x1 (10 : Int32)).bind fun r9 =>
      if r9 = 0 then
        some (0 : Int32)
      else
        (fX1_inColumn F σbb x1).bind fun r12 =>
        if (6 : Int32) ≤ r12 then
          some (0 : Int32)
        else
          some (1 : Int32)
    else
      (fX10_isBelow F x1 (6 : Int32)).bind fun r3 =>
      if r3 = 0 then
        some (0 : Int32)
      else
        (fX1_standsAt F σbb (σee.2.1 1 (1 : Int32).toNatClampNeg) x1).bind fun r6 =>
        if r6 = 0 then
          some (1 : Int32)
        else
          some (0 : Int32)
theorem cdX5_allowsForBody : CallD yX5_allowsForBody 1 := by decide +kernel
set_option maxHeartbeats 4000000 in
set_option maxRecDepth 100000 in
theorem mX5_allowsForBody (l : Launch) (G : GP) (F : Nat) (ee : Nat → Nat) (ff : Nat) (bb : Nat → Nat) (dd : Nat → Nat) (σee : ST) (σbb : ST) (σdd : ST) (x1 : Int32) {r : Int32} (h : fX5_allowsForBody F σee σbb σdd x1 = some r) : CC l G yX5_allowsForBody cX5_allowsForBody 2 (some .boolean) 2 [.ref (ee 0), .int x1] (List.flatten [wE G ee ff σee, wF ff (bb 0) (dd 0), wB G bb σbb, wD G dd σdd]) (List.flatten [wE G ee ff σee, wF ff (bb 0) (dd 0), wB G bb σbb, wD G dd σdd]) (some (.int r)) := by
  refine CC.of (by decide) (Nat.le_of_ble_eq_true rfl) ?_
  intro p e s m below meth c A K hP hD hS ls hl
  obtain ⟨hx, hb, hr, hml, hts, hown, hlocks, hA, hG⟩ := id K
  have hl : lv_has ls 2 [(0, .ref (ee 0)), (1, .int x1)] := hl
  unfold fX5_allowsForBody at h
  refine lv_aload_n hx hb dX5_allowsForBody_0 rfl (lv_at hl 0 rfl) ?_
  refine va_get (D := G.1) (cl := vwCl) (tys := tysG G) (ci := 5) (v := .int (σee.1 2)) (C := RX5) (T := TX5) (N := 5) hx hb hts iX5 hown hG.1 hP 0 rfl rfl 2 (Nat.le_of_ble_eq_true rfl) (hts _ tw_1_138) (fun _ h9 => h9) rfl dX5_allowsForBody_1 ?_
  refine lv_if_ne (tgt := 14) hx hb dX5_allowsForBody_4 (by decide) (fun c1 => ?_) (fun c1 => ?_)
  · have h := if_f c1 h
    refine lv_aload_n hx hb dX5_allowsForBody_14 rfl (lv_at hl 0 rfl) ?_
    refine va_get (D := G.1) (cl := vwCl) (tys := tysG G) (ci := 5) (v := .int (σee.1 2)) (C := RX5) (T := TX5) (N := 5) hx hb hts iX5 hown hG.1 hP 0 rfl rfl 2 (Nat.le_of_ble_eq_true rfl) (hts _ tw_1_138) (fun _ h9 => h9) rfl dX5_allowsForBody_15 ?_
    refine lv_iconst (v := 1) hx hb dX5_allowsForBody_18 li_1 ?_
    refine lv_icmp_ne (tgt := 55) hx hb dX5_allowsForBody_19 (by decide) (fun c2 => ?_) (fun c2 => ?_)
    · have h := if_f c2 h
      refine lv_iload_n hx hb dX5_allowsForBody_55 rfl (lv_at hl 1 rfl) ?_
      refine lv_bipush (v := 6) hx hb dX5_allowsForBody_56 lb_6 ?_
      obtain ⟨r3, hc4, h⟩ := bd_ex h
      refine sl_SN K (mX10_isBelow l G F x1 (6 : Int32) hc4) tw_2_194 tw_1_1 tw_2_193 tw_2_192 cdX10_isBelow ⟨Nat.le_of_ble_eq_true rfl, Nat.le_of_ble_eq_true rfl⟩ hP hD hS [] rfl rfl rfl rfl hl.1 (Nat.le_of_ble_eq_true rfl) ⟨Nat.zero_le _, Nat.zero_le _⟩ dX5_allowsForBody_58 (fun H locs hP hD hS => ?_)
      have hP : va_P G.1 vwCl (List.flatten [wE G ee ff σee, wF ff (bb 0) (dd 0), wB G bb σbb, wD G dd σdd]) H := hP
      have hD : va_D A (List.flatten [wE G ee ff σee, wF ff (bb 0) (dd 0), wB G bb σbb, wD G dd σdd]) := hD
      refine lv_if_eq (tgt := 88) hx hb dX5_allowsForBody_61 (by decide) (fun c5 => ?_) (fun c5 => ?_)
      · have h := if_t c5 h
        refine lv_iconst (v := 0) hx hb dX5_allowsForBody_88 li_0 ?_
        cases h
        exact rt_z K (Or.inl rfl) hP hD hS dX5_allowsForBody_89
      · have h := if_f c5 h
        refine lv_aload_n hx hb dX5_allowsForBody_64 rfl (lv_at hl 0 rfl) ?_
        refine va_get (D := G.1) (cl := vwCl) (tys := tysG G) (ci := 5) (v := .ref ff) (C := RX5) (T := TX5) (N := 5) hx hb hts iX5 hown hG.1 hP 0 rfl rfl 0 (Nat.le_of_ble_eq_true rfl) (hts _ tw_1_135) (fun _ h9 => h9) rfl dX5_allowsForBody_65 ?_
        refine va_get (D := G.1) (cl := vwCl) (tys := tysG G) (ci := 2) (v := .ref (bb 0)) (C := RX2) (T := TX2) (N := 2) hx hb hts iX2 hown hG.1 hP 2 rfl rfl 0 (Nat.le_of_ble_eq_true rfl) (hts _ tw_1_124) (fun _ h9 => h9) rfl dX5_allowsForBody_68 ?_
        refine lv_aload_n hx hb dX5_allowsForBody_71 rfl (lv_at hl 0 rfl) ?_
        refine va_get (D := G.1) (cl := vwCl) (tys := tysG G) (ci := 5) (v := .ref (ee 2)) (C := RX5) (T := TX5) (N := 5) hx hb hts iX5 hown hG.1 hP 0 rfl rfl 1 (Nat.le_of_ble_eq_true rfl) (hts _ tw_1_137) (fun _ h9 => h9) rfl dX5_allowsForBody_72 ?_
        refine lv_iconst (v := 1) hx hb dX5_allowsForBody_75 li_1 ?_
        refine va_iald hx hb hG.1 hP 1 0 rfl rfl (vpi (by decide)) dX5_allowsForBody_76 ?_
        refine lv_iload_n hx hb dX5_allowsForBody_77 rfl (lv_at hl 1 rfl) ?_
        obtain ⟨r6, hc7, h⟩ := bd_ex h
        refine sl_V (q0 := 3) (ci := 1) (C := RX1) K (mX1_standsAt l G F bb σbb (σee.2.1 1 (1 : Int32).toNatClampNeg) x1 hc7) tw_2_210 tw_1_5 tw_2_208 tw_2_209 tw_2_207 cdX1_standsAt ⟨Nat.le_of_ble_eq_true rfl, Nat.le_of_ble_eq_true rfl⟩ hP hD hS [2] rfl rfl rfl rfl rfl rfl rfl hl.1 (Nat.le_of_ble_eq_true rfl) ⟨Nat.zero_le _, Nat.zero_le _⟩ dX5_allowsForBody_78 (fun H locs hP hD hS => ?_)
        have hP : va_P G.1 vwCl (List.flatten [wE G ee ff σee, wF ff (bb 0) (dd 0), wB G bb σbb, wD G dd σdd]) H := hP
        have hD : va_D A (List.flatten [wE G ee ff σee, wF ff (bb 0) (dd 0), wB G bb σbb, wD G dd σdd]) := hD
        refine lv_if_ne (tgt := 88) hx hb dX5_allowsForBody_81 (by decide) (fun c8 => ?_) (fun c8 => ?_)
        · have h := if_f c8 h
          refine lv_iconst (v := 0) hx hb dX5_allowsForBody_88 li_0 ?_
          cases h
          exact rt_z K (Or.inl rfl) hP hD hS dX5_allowsForBody_89
        · have h := if_t c8 h
          refine lv_iconst (v := 1) hx hb dX5_allowsForBody_84 li_1 ?_
          refine lv_goto (tgt := 89) hx hb dX5_allowsForBody_85 (by decide) ?_
          cases h
          exact rt_z K (Or.inr rfl) hP hD hS dX5_allowsForBody_89
    · have h := if_t c2 h
      refine lv_iload_n hx hb dX5_allowsForBody_22 rfl (lv_at hl 1 rfl) ?_
      refine lv_bipush (v := 10) hx hb dX5_allowsForBody_23 lb_10 ?_
      obtain ⟨r9, hc10, h⟩ := bd_ex h
      refine sl_SN K (mX10_isBelow l G F x1 (10 : Int32) hc10) tw_2_194 tw_1_1 tw_2_193 tw_2_192 cdX10_isBelow ⟨Nat.le_of_ble_eq_true rfl, Nat.le_of_ble_eq_true rfl⟩ hP hD hS [] rfl rfl rfl rfl hl.1 (Nat.le_of_ble_eq_true rfl) ⟨Nat.zero_le _, Nat.zero_le _⟩ dX5_allowsForBody_25 (fun H locs hP hD hS => ?_)
      have hP : va_P G.1 vwCl (List.flatten [wE G ee ff σee, wF ff (bb 0) (dd 0), wB G bb σbb, wD G dd σdd]) H := hP
      have hD : va_D A (List.flatten [wE G ee ff σee, wF ff (bb 0) (dd 0), wB G bb σbb, wD G dd σdd]) := hD
      refine lv_if_eq (tgt := 51) hx hb dX5_allowsForBody_28 (by decide) (fun c11 => ?_) (fun c11 => ?_)
      · have h := if_t c11 h
        refine lv_iconst (v := 0) hx hb dX5_allowsForBody_51 li_0 ?_
        refine lv_goto (tgt := 89) hx hb dX5_allowsForBody_52 (by decide) ?_
        cases h
        exact rt_z K (Or.inl rfl) hP hD hS dX5_allowsForBody_89
      · have h := if_f c11 h
        refine lv_aload_n hx hb dX5_allowsForBody_31 rfl (lv_at hl 0 rfl) ?_
        refine va_get (D := G.1) (cl := vwCl) (tys := tysG G) (ci := 5) (v := .ref ff) (C := RX5) (T := TX5) (N := 5) hx hb hts iX5 hown hG.1 hP 0 rfl rfl 0 (Nat.le_of_ble_eq_true rfl) (hts _ tw_1_135) (fun _ h9 => h9) rfl dX5_allowsForBody_32 ?_
        refine va_get (D := G.1) (cl := vwCl) (tys := tysG G) (ci := 2) (v := .ref (bb 0)) (C := RX2) (T := TX2) (N := 2) hx hb hts iX2 hown hG.1 hP 2 rfl rfl 0 (Nat.le_of_ble_eq_true rfl) (hts _ tw_1_124) (fun _ h9 => h9) rfl dX5_allowsForBody_35 ?_
        refine lv_iload_n hx hb dX5_allowsForBody_38 rfl (lv_at hl 1 rfl) ?_
        obtain ⟨r12, hc13, h⟩ := bd_ex h
        refine sl_V (q0 := 3) (ci := 1) (C := RX1) K (mX1_inColumn l G F bb σbb x1 hc13) tw_2_206 tw_1_5 tw_2_204 tw_2_205 tw_2_203 cdX1_inColumn ⟨Nat.le_of_ble_eq_true rfl, Nat.le_of_ble_eq_true rfl⟩ hP hD hS [2] rfl rfl rfl rfl rfl rfl rfl hl.1 (Nat.le_of_ble_eq_true rfl) ⟨Nat.zero_le _, Nat.zero_le _⟩ dX5_allowsForBody_39 (fun H locs hP hD hS => ?_)
        have hP : va_P G.1 vwCl (List.flatten [wE G ee ff σee, wF ff (bb 0) (dd 0), wB G bb σbb, wD G dd σdd]) H := hP
        have hD : va_D A (List.flatten [wE G ee ff σee, wF ff (bb 0) (dd 0), wB G bb σbb, wD G dd σdd]) := hD
        refine lv_bipush (v := 6) hx hb dX5_allowsForBody_42 lb_6 ?_
        refine lv_icmp_ge (tgt := 51) hx hb dX5_allowsForBody_44 (by decide) (fun c14 => ?_) (fun c14 => ?_)
        · have h := if_t c14 h
          refine lv_iconst (v := 0) hx hb dX5_allowsForBody_51 li_0 ?_
          refine lv_goto (tgt := 89) hx hb dX5_allowsForBody_52 (by decide) ?_
          cases h
          exact rt_z K (Or.inl rfl) hP hD hS dX5_allowsForBody_89
        · have h := if_f c14 h
          refine lv_iconst (v := 1) hx hb dX5_allowsForBody_47 li_1 ?_
          refine lv_goto (tgt := 89) hx hb dX5_allowsForBody_48 (by decide) ?_
          cases h
          exact rt_z K (Or.inr rfl) hP hD hS dX5_allowsForBody_89
  · have h := if_t c1 h
    refine lv_iload_n hx hb dX5_allowsForBody_7 rfl (lv_at hl 1 rfl) ?_
    refine lv_bipush (v := 6) hx hb dX5_allowsForBody_8 lb_6 ?_
    obtain ⟨r15, hc16, h⟩ := bd_ex h
    refine sl_SN K (mX10_isBelow l G F x1 (6 : Int32) hc16) tw_2_194 tw_1_1 tw_2_193 tw_2_192 cdX10_isBelow ⟨Nat.le_of_ble_eq_true rfl, Nat.le_of_ble_eq_true rfl⟩ hP hD hS [] rfl rfl rfl rfl hl.1 (Nat.le_of_ble_eq_true rfl) ⟨Nat.zero_le _, Nat.zero_le _⟩ dX5_allowsForBody_10 (fun H locs hP hD hS => ?_)
    have hP : va_P G.1 vwCl (List.flatten [wE G ee ff σee, wF ff (bb 0) (dd 0), wB G bb σbb, wD G dd σdd]) H := hP
    have hD : va_D A (List.flatten [wE G ee ff σee, wF ff (bb 0) (dd 0), wB G bb σbb, wD G dd σdd]) := hD
    obtain ⟨ck17, h⟩ := ck h
    cases h
    exact rt_z K (Classical.not_not.mp ck17) hP hD hS dX5_allowsForBody_13
def fX5_allowsForCliff (F : Nat) (σee : ST) (σbb : ST) (σdd : ST) (x1 : Int32) : Option (Int32) :=
  if (σee.1 2) = 0 then
    (fX10_isBelow F x1 (6 : Int32)).bind fun r5 =>
    if r5 = 0 then
      some (0 : Int32)
    else
      (fX4_hasCliff F σdd x1).bind fun r8 =>
      if r8 = 0 then
        some (1 : Int32)
      else
        some (0 : Int32)
  else
    (fX10_isMinute F x1).bind fun r2 =>
    if ¬ (r2 = 0 ∨ r2 = 1) then none else
    some r2
theorem cdX5_allowsForCliff : CallD yX5_allowsForCliff 1 := by decide +kernel
set_option maxHeartbeats 4000000 in
set_option maxRecDepth 100000 in
theorem mX5_allowsForCliff (l : Launch) (G : GP) (F : Nat) (ee : Nat → Nat) (ff : Nat) (bb : Nat → Nat) (dd : Nat → Nat) (σee : ST) (σbb : ST) (σdd : ST) (x1 : Int32) {r : Int32} (h : fX5_allowsForCliff F σee σbb σdd x1 = some r) : CC l G yX5_allowsForCliff cX5_allowsForCliff 2 (some .boolean) 3 [.ref (ee 0), .int x1] (List.flatten [wE G ee ff σee, wF ff (bb 0) (dd 0), wB G bb σbb, wD G dd σdd]) (List.flatten [wE G ee ff σee, wF ff (bb 0) (dd 0), wB G bb σbb, wD G dd σdd]) (some (.int r)) := by
  refine CC.of (by decide) (Nat.le_of_ble_eq_true rfl) ?_
  intro p e s m below meth c A K hP hD hS ls hl
  obtain ⟨hx, hb, hr, hml, hts, hown, hlocks, hA, hG⟩ := id K
  have hl : lv_has ls 2 [(0, .ref (ee 0)), (1, .int x1)] := hl
  unfold fX5_allowsForCliff at h
  refine lv_aload_n hx hb dX5_allowsForCliff_0 rfl (lv_at hl 0 rfl) ?_
  refine va_get (D := G.1) (cl := vwCl) (tys := tysG G) (ci := 5) (v := .int (σee.1 2)) (C := RX5) (T := TX5) (N := 5) hx hb hts iX5 hown hG.1 hP 0 rfl rfl 2 (Nat.le_of_ble_eq_true rfl) (hts _ tw_1_138) (fun _ h9 => h9) rfl dX5_allowsForCliff_1 ?_
  refine lv_if_ne (tgt := 38) hx hb dX5_allowsForCliff_4 (by decide) (fun c1 => ?_) (fun c1 => ?_)
  · have h := if_f c1 h
    refine lv_iload_n hx hb dX5_allowsForCliff_38 rfl (lv_at hl 1 rfl) ?_
    obtain ⟨r2, hc3, h⟩ := bd_ex h
    refine sl_SN K (mX10_isMinute l G F x1 hc3) tw_2_221 tw_1_1 tw_2_220 tw_2_219 cdX10_isMinute ⟨Nat.le_of_ble_eq_true rfl, Nat.le_of_ble_eq_true rfl⟩ hP hD hS [] rfl rfl rfl rfl hl.1 (Nat.le_of_ble_eq_true rfl) ⟨Nat.zero_le _, Nat.zero_le _⟩ dX5_allowsForCliff_39 (fun H locs hP hD hS => ?_)
    have hP : va_P G.1 vwCl (List.flatten [wE G ee ff σee, wF ff (bb 0) (dd 0), wB G bb σbb, wD G dd σdd]) H := hP
    have hD : va_D A (List.flatten [wE G ee ff σee, wF ff (bb 0) (dd 0), wB G bb σbb, wD G dd σdd]) := hD
    obtain ⟨ck4, h⟩ := ck h
    cases h
    exact rt_z K (Classical.not_not.mp ck4) hP hD hS dX5_allowsForCliff_42
  · have h := if_t c1 h
    refine lv_iload_n hx hb dX5_allowsForCliff_7 rfl (lv_at hl 1 rfl) ?_
    refine lv_bipush (v := 6) hx hb dX5_allowsForCliff_8 lb_6 ?_
    obtain ⟨r5, hc6, h⟩ := bd_ex h
    refine sl_SN K (mX10_isBelow l G F x1 (6 : Int32) hc6) tw_2_194 tw_1_1 tw_2_193 tw_2_192 cdX10_isBelow ⟨Nat.le_of_ble_eq_true rfl, Nat.le_of_ble_eq_true rfl⟩ hP hD hS [] rfl rfl rfl rfl hl.1 (Nat.le_of_ble_eq_true rfl) ⟨Nat.zero_le _, Nat.zero_le _⟩ dX5_allowsForCliff_10 (fun H locs hP hD hS => ?_)
    have hP : va_P G.1 vwCl (List.flatten [wE G ee ff σee, wF ff (bb 0) (dd 0), wB G bb σbb, wD G dd σdd]) H := hP
    have hD : va_D A (List.flatten [wE G ee ff σee, wF ff (bb 0) (dd 0), wB G bb σbb, wD G dd σdd]) := hD
    refine lv_if_eq (tgt := 34) hx hb dX5_allowsForCliff_13 (by decide) (fun c7 => ?_) (fun c7 => ?_)
    · have h := if_t c7 h
      refine lv_iconst (v := 0) hx hb dX5_allowsForCliff_34 li_0 ?_
      refine lv_goto (tgt := 42) hx hb dX5_allowsForCliff_35 (by decide) ?_
      cases h
      exact rt_z K (Or.inl rfl) hP hD hS dX5_allowsForCliff_42
    · have h := if_f c7 h
      refine lv_aload_n hx hb dX5_allowsForCliff_16 rfl (lv_at hl 0 rfl) ?_
      refine va_get (D := G.1) (cl := vwCl) (tys := tysG G) (ci := 5) (v := .ref ff) (C := RX5) (T := TX5) (N := 5) hx hb hts iX5 hown hG.1 hP 0 rfl rfl 0 (Nat.le_of_ble_eq_true rfl) (hts _ tw_1_135) (fun _ h9 => h9) rfl dX5_allowsForCliff_17 ?_
      refine va_get (D := G.1) (cl := vwCl) (tys := tysG G) (ci := 2) (v := .ref (dd 0)) (C := RX2) (T := TX2) (N := 2) hx hb hts iX2 hown hG.1 hP 2 rfl rfl 1 (Nat.le_of_ble_eq_true rfl) (hts _ tw_1_128) (fun _ h9 => h9) rfl dX5_allowsForCliff_20 ?_
      refine lv_iload_n hx hb dX5_allowsForCliff_23 rfl (lv_at hl 1 rfl) ?_
      obtain ⟨r8, hc9, h⟩ := bd_ex h
      refine sl_V (q0 := 7) (ci := 4) (C := RX4) K (mX4_hasCliff l G F dd σdd x1 hc9) tw_2_218 tw_1_6 tw_2_216 tw_2_217 tw_2_215 cdX4_hasCliff ⟨Nat.le_of_ble_eq_true rfl, Nat.le_of_ble_eq_true rfl⟩ hP hD hS [3] rfl rfl rfl rfl rfl rfl rfl hl.1 (Nat.le_of_ble_eq_true rfl) ⟨Nat.zero_le _, Nat.zero_le _⟩ dX5_allowsForCliff_24 (fun H locs hP hD hS => ?_)
      have hP : va_P G.1 vwCl (List.flatten [wE G ee ff σee, wF ff (bb 0) (dd 0), wB G bb σbb, wD G dd σdd]) H := hP
      have hD : va_D A (List.flatten [wE G ee ff σee, wF ff (bb 0) (dd 0), wB G bb σbb, wD G dd σdd]) := hD
      refine lv_if_ne (tgt := 34) hx hb dX5_allowsForCliff_27 (by decide) (fun c10 => ?_) (fun c10 => ?_)
      · have h := if_f c10 h
        refine lv_iconst (v := 0) hx hb dX5_allowsForCliff_34 li_0 ?_
        refine lv_goto (tgt := 42) hx hb dX5_allowsForCliff_35 (by decide) ?_
        cases h
        exact rt_z K (Or.inl rfl) hP hD hS dX5_allowsForCliff_42
      · have h := if_t c10 h
        refine lv_iconst (v := 1) hx hb dX5_allowsForCliff_30 li_1 ?_
        refine lv_goto (tgt := 42) hx hb dX5_allowsForCliff_31 (by decide) ?_
        cases h
        exact rt_z K (Or.inr rfl) hP hD hS dX5_allowsForCliff_42
def fX5_allows (F : Nat) (σee : ST) (σbb : ST) (σdd : ST) (x1 : Int32) : Option (Int32) :=
  if (σee.1 3) = 66 then
    (fX5_allowsForBody F σee σbb σdd x1).bind fun r2 =>
    if ¬ (r2 = 0 ∨ r2 = 1) then none else
    some r2
  else
  if (σee.1 3) = 72 then
    (fX5_allowsInRange F σee x1 (6 : Int32)).bind fun r6 =>
    if ¬ (r6 = 0 ∨ r6 = 1) then none else
    some r6
  else
  if (σee.1 3) = 76 then
    (fX5_allowsForCliff F σee σbb σdd x1).bind fun r10 =>
    if ¬ (r10 = 0 ∨ r10 = 1) then none else
    some r10
  else
    (fX5_allowsInRange F σee x1 (16 : Int32)).bind fun r13 =>
    if ¬ (r13 = 0 ∨ r13 = 1) then none else
    some r13
theorem cdX5_allows : CallD yX5_allows 1 := by decide +kernel
set_option maxHeartbeats 4000000 in
set_option maxRecDepth 100000 in
theorem mX5_allows (l : Launch) (G : GP) (F : Nat) (ee : Nat → Nat) (ff : Nat) (bb : Nat → Nat) (dd : Nat → Nat) (σee : ST) (σbb : ST) (σdd : ST) (x1 : Int32) {r : Int32} (h : fX5_allows F σee σbb σdd x1 = some r) : CC l G yX5_allows cX5_allows 2 (some .boolean) 4 [.ref (ee 0), .int x1] (List.flatten [wE G ee ff σee, wF ff (bb 0) (dd 0), wB G bb σbb, wD G dd σdd]) (List.flatten [wE G ee ff σee, wF ff (bb 0) (dd 0), wB G bb σbb, wD G dd σdd]) (some (.int r)) := by
  refine CC.of (by decide) (Nat.le_of_ble_eq_true rfl) ?_
  intro p e s m below meth c A K hP hD hS ls hl
  obtain ⟨hx, hb, hr, hml, hts, hown, hlocks, hA, hG⟩ := id K
  have hl : lv_has ls 2 [(0, .ref (ee 0)), (1, .int x1)] := hl
  unfold fX5_allows at h
  refine lv_aload_n hx hb dX5_allows_0 rfl (lv_at hl 0 rfl) ?_
  refine va_get (D := G.1) (cl := vwCl) (tys := tysG G) (ci := 5) (v := .int (σee.1 3)) (C := RX5) (T := TX5) (N := 5) hx hb hts iX5 hown hG.1 hP 0 rfl rfl 3 (Nat.le_of_ble_eq_true rfl) (hts _ tw_1_139) (fun _ h9 => h9) rfl dX5_allows_1 ?_
  by_cases c1 : (σee.1 3) = 66
  · have h := if_t c1 h
    refine lv_lookup (off := 36) (tgt := 40) hx hb dX5_allows_4 (by decide) (by rw [c1] <;> rfl) (by decide) ?_
    refine lv_aload_n hx hb dX5_allows_40 rfl (lv_at hl 0 rfl) ?_
    refine lv_iload_n hx hb dX5_allows_41 rfl (lv_at hl 1 rfl) ?_
    obtain ⟨r2, hc3, h⟩ := bd_ex h
    refine sl_V (q0 := 0) (ci := 5) (C := RX5) K (mX5_allowsForBody l G F ee ff bb dd σee σbb σdd x1 hc3) tw_2_202 tw_1_3 tw_2_200 tw_2_201 tw_2_199 cdX5_allowsForBody ⟨Nat.le_of_ble_eq_true rfl, Nat.le_of_ble_eq_true rfl⟩ hP hD hS [0, 1, 2, 3] rfl rfl rfl rfl rfl rfl rfl hl.1 (Nat.le_of_ble_eq_true rfl) ⟨Nat.zero_le _, Nat.zero_le _⟩ dX5_allows_42 (fun H locs hP hD hS => ?_)
    have hP : va_P G.1 vwCl (List.flatten [wE G ee ff σee, wF ff (bb 0) (dd 0), wB G bb σbb, wD G dd σdd]) H := hP
    have hD : va_D A (List.flatten [wE G ee ff σee, wF ff (bb 0) (dd 0), wB G bb σbb, wD G dd σdd]) := hD
    obtain ⟨ck4, h⟩ := ck h
    cases h
    exact rt_z K (Classical.not_not.mp ck4) hP hD hS dX5_allows_45
  have h := if_f c1 h
  by_cases c5 : (σee.1 3) = 72
  · have h := if_t c5 h
    refine lv_lookup (off := 48) (tgt := 52) hx hb dX5_allows_4 (by decide) (by rw [c5] <;> rfl) (by decide) ?_
    refine lv_aload_n hx hb dX5_allows_52 rfl (lv_at hl 0 rfl) ?_
    refine lv_iload_n hx hb dX5_allows_53 rfl (lv_at hl 1 rfl) ?_
    refine lv_bipush (v := 6) hx hb dX5_allows_54 lb_6 ?_
    obtain ⟨r6, hc7, h⟩ := bd_ex h
    refine sl_V (q0 := 0) (ci := 5) (C := RX5) K (mX5_allowsInRange l G F ee ff σee x1 (6 : Int32) hc7) tw_2_226 tw_1_3 tw_2_224 tw_2_225 tw_2_223 cdX5_allowsInRange ⟨Nat.le_of_ble_eq_true rfl, Nat.le_of_ble_eq_true rfl⟩ hP hD hS [0] rfl rfl rfl rfl rfl rfl rfl hl.1 (Nat.le_of_ble_eq_true rfl) ⟨Nat.zero_le _, Nat.zero_le _⟩ dX5_allows_56 (fun H locs hP hD hS => ?_)
    have hP : va_P G.1 vwCl (List.flatten [wE G ee ff σee, wF ff (bb 0) (dd 0), wB G bb σbb, wD G dd σdd]) H := hP
    have hD : va_D A (List.flatten [wE G ee ff σee, wF ff (bb 0) (dd 0), wB G bb σbb, wD G dd σdd]) := hD
    obtain ⟨ck8, h⟩ := ck h
    cases h
    exact rt_z K (Classical.not_not.mp ck8) hP hD hS dX5_allows_59
  have h := if_f c5 h
  by_cases c9 : (σee.1 3) = 76
  · have h := if_t c9 h
    refine lv_lookup (off := 42) (tgt := 46) hx hb dX5_allows_4 (by decide) (by rw [c9] <;> rfl) (by decide) ?_
    refine lv_aload_n hx hb dX5_allows_46 rfl (lv_at hl 0 rfl) ?_
    refine lv_iload_n hx hb dX5_allows_47 rfl (lv_at hl 1 rfl) ?_
    obtain ⟨r10, hc11, h⟩ := bd_ex h
    refine sl_V (q0 := 0) (ci := 5) (C := RX5) K (mX5_allowsForCliff l G F ee ff bb dd σee σbb σdd x1 hc11) tw_2_214 tw_1_3 tw_2_212 tw_2_213 tw_2_211 cdX5_allowsForCliff ⟨Nat.le_of_ble_eq_true rfl, Nat.le_of_ble_eq_true rfl⟩ hP hD hS [0, 1, 2, 3] rfl rfl rfl rfl rfl rfl rfl hl.1 (Nat.le_of_ble_eq_true rfl) ⟨Nat.zero_le _, Nat.zero_le _⟩ dX5_allows_48 (fun H locs hP hD hS => ?_)
    have hP : va_P G.1 vwCl (List.flatten [wE G ee ff σee, wF ff (bb 0) (dd 0), wB G bb σbb, wD G dd σdd]) H := hP
    have hD : va_D A (List.flatten [wE G ee ff σee, wF ff (bb 0) (dd 0), wB G bb σbb, wD G dd σdd]) := hD
    obtain ⟨ck12, h⟩ := ck h
    cases h
    exact rt_z K (Classical.not_not.mp ck12) hP hD hS dX5_allows_51
  have h := if_f c9 h
  refine lv_lookup (off := 56) (tgt := 60) hx hb dX5_allows_4 (by decide) ((lv_osw c1 rfl).trans ((lv_osw c5 rfl).trans ((lv_osw c9 rfl).trans rfl))) (by decide) ?_
  refine lv_aload_n hx hb dX5_allows_60 rfl (lv_at hl 0 rfl) ?_
  refine lv_iload_n hx hb dX5_allows_61 rfl (lv_at hl 1 rfl) ?_
  refine lv_bipush (v := 16) hx hb dX5_allows_62 lb_16 ?_
  obtain ⟨r13, hc14, h⟩ := bd_ex h
  refine sl_V (q0 := 0) (ci := 5) (C := RX5) K (mX5_allowsInRange l G F ee ff σee x1 (16 : Int32) hc14) tw_2_226 tw_1_3 tw_2_224 tw_2_225 tw_2_223 cdX5_allowsInRange ⟨Nat.le_of_ble_eq_true rfl, Nat.le_of_ble_eq_true rfl⟩ hP hD hS [0] rfl rfl rfl rfl rfl rfl rfl hl.1 (Nat.le_of_ble_eq_true rfl) ⟨Nat.zero_le _, Nat.zero_le _⟩ dX5_allows_64 (fun H locs hP hD hS => ?_)
  have hP : va_P G.1 vwCl (List.flatten [wE G ee ff σee, wF ff (bb 0) (dd 0), wB G bb σbb, wD G dd σdd]) H := hP
  have hD : va_D A (List.flatten [wE G ee ff σee, wF ff (bb 0) (dd 0), wB G bb σbb, wD G dd σdd]) := hD
  obtain ⟨ck15, h⟩ := ck h
  cases h
  exact rt_z K (Classical.not_not.mp ck15) hP hD hS dX5_allows_67
def fX5_endPart (F : Nat) (σee : ST) (σbb : ST) (σdd : ST)  : Option (ST × ST × ST) :=
  if (σee.1 3) = 66 then
    (fX1_insert F σbb (σbb.1 3) (σee.2.1 1 (0 : Int32).toNatClampNeg) (σee.2.1 1 (1 : Int32).toNatClampNeg) (σee.2.1 1 (2 : Int32).toNatClampNeg)).bind fun r2 =>
    nm (sI σee 3 (0 : Int32)) fun (s4 : ST) =>
    nm (sI s4 2 (0 : Int32)) fun (s6 : ST) =>
    some (s6, r2, σdd)
  else
  if (σee.1 3) = 72 then
    (fX4_addHill F σdd (σee.2.1 1)).bind fun r9 =>
    nm (sI σee 3 (0 : Int32)) fun (s11 : ST) =>
    nm (sI s11 2 (0 : Int32)) fun (s13 : ST) =>
    some (s13, σbb, r9)
  else
  if (σee.1 3) = 76 then
    (fX4_addCliff F σdd (σee.2.1 1 (0 : Int32).toNatClampNeg) (σee.2.1 1 (1 : Int32).toNatClampNeg)).bind fun r16 =>
    nm (sI σee 3 (0 : Int32)) fun (s18 : ST) =>
    nm (sI s18 2 (0 : Int32)) fun (s20 : ST) =>
    some (s20, σbb, r16)
  else
    (fX4_addCloud F σdd (σee.2.1 1)).bind fun r22 =>
    nm (sI σee 3 (0 : Int32)) fun (s24 : ST) =>
    nm (sI s24 2 (0 : Int32)) fun (s26 : ST) =>
    some (s26, σbb, r22)
theorem cdX5_endPart : CallD yX5_endPart 0 := by decide +kernel
set_option maxHeartbeats 4000000 in
set_option maxRecDepth 100000 in
theorem mX5_endPart (l : Launch) (G : GP) (F : Nat) (ee : Nat → Nat) (ff : Nat) (bb : Nat → Nat) (dd : Nat → Nat) (σee : ST) (σbb : ST) (σdd : ST)  {r : ST × ST × ST} (h : fX5_endPart F σee σbb σdd  = some r) : CC l G yX5_endPart cX5_endPart 1 none 4 [.ref (ee 0)] (List.flatten [wE G ee ff σee, wF ff (bb 0) (dd 0), wB G bb σbb, wD G dd σdd]) (List.flatten [wE G ee ff r.1, wF ff (bb 0) (dd 0), wB G bb r.2.1, wD G dd r.2.2]) none := by
  refine CC.of (by decide) (Nat.le_of_ble_eq_true rfl) ?_
  intro p e s m below meth c A K hP hD hS ls hl
  obtain ⟨hx, hb, hr, hml, hts, hown, hlocks, hA, hG⟩ := id K
  have hl : lv_has ls 1 [(0, .ref (ee 0))] := hl
  unfold fX5_endPart at h
  refine lv_aload_n hx hb dX5_endPart_0 rfl (lv_at hl 0 rfl) ?_
  refine va_get (D := G.1) (cl := vwCl) (tys := tysG G) (ci := 5) (v := .int (σee.1 3)) (C := RX5) (T := TX5) (N := 5) hx hb hts iX5 hown hG.1 hP 0 rfl rfl 3 (Nat.le_of_ble_eq_true rfl) (hts _ tw_1_139) (fun _ h9 => h9) rfl dX5_endPart_1 ?_
  by_cases c1 : (σee.1 3) = 66
  · have h := if_t c1 h
    refine lv_lookup (off := 36) (tgt := 40) hx hb dX5_endPart_4 (by decide) (by rw [c1] <;> rfl) (by decide) ?_
    refine lv_aload_n hx hb dX5_endPart_40 rfl (lv_at hl 0 rfl) ?_
    refine va_get (D := G.1) (cl := vwCl) (tys := tysG G) (ci := 5) (v := .ref ff) (C := RX5) (T := TX5) (N := 5) hx hb hts iX5 hown hG.1 hP 0 rfl rfl 0 (Nat.le_of_ble_eq_true rfl) (hts _ tw_1_135) (fun _ h9 => h9) rfl dX5_endPart_41 ?_
    refine va_get (D := G.1) (cl := vwCl) (tys := tysG G) (ci := 2) (v := .ref (bb 0)) (C := RX2) (T := TX2) (N := 2) hx hb hts iX2 hown hG.1 hP 2 rfl rfl 0 (Nat.le_of_ble_eq_true rfl) (hts _ tw_1_124) (fun _ h9 => h9) rfl dX5_endPart_44 ?_
    refine lv_aload_n hx hb dX5_endPart_47 rfl (lv_at hl 0 rfl) ?_
    refine va_get (D := G.1) (cl := vwCl) (tys := tysG G) (ci := 5) (v := .ref ff) (C := RX5) (T := TX5) (N := 5) hx hb hts iX5 hown hG.1 hP 0 rfl rfl 0 (Nat.le_of_ble_eq_true rfl) (hts _ tw_1_135) (fun _ h9 => h9) rfl dX5_endPart_48 ?_
    refine va_get (D := G.1) (cl := vwCl) (tys := tysG G) (ci := 2) (v := .ref (bb 0)) (C := RX2) (T := TX2) (N := 2) hx hb hts iX2 hown hG.1 hP 2 rfl rfl 0 (Nat.le_of_ble_eq_true rfl) (hts _ tw_1_124) (fun _ h9 => h9) rfl dX5_endPart_51 ?_
    refine va_get (D := G.1) (cl := vwCl) (tys := tysG G) (ci := 1) (v := .int (σbb.1 3)) (C := RX1) (T := TX1) (N := 4) hx hb hts iX1 hown hG.1 hP 3 rfl rfl 3 (Nat.le_of_ble_eq_true rfl) (hts _ tw_1_76) (fun _ h9 => h9) rfl dX5_endPart_54 ?_
    refine lv_aload_n hx hb dX5_endPart_57 rfl (lv_at hl 0 rfl) ?_
    refine va_get (D := G.1) (cl := vwCl) (tys := tysG G) (ci := 5) (v := .ref (ee 2)) (C := RX5) (T := TX5) (N := 5) hx hb hts iX5 hown hG.1 hP 0 rfl rfl 1 (Nat.le_of_ble_eq_true rfl) (hts _ tw_1_137) (fun _ h9 => h9) rfl dX5_endPart_58 ?_
    refine lv_iconst (v := 0) hx hb dX5_endPart_61 li_0 ?_
    refine va_iald hx hb hG.1 hP 1 0 rfl rfl (vpi (by decide)) dX5_endPart_62 ?_
    refine lv_aload_n hx hb dX5_endPart_63 rfl (lv_at hl 0 rfl) ?_
    refine va_get (D := G.1) (cl := vwCl) (tys := tysG G) (ci := 5) (v := .ref (ee 2)) (C := RX5) (T := TX5) (N := 5) hx hb hts iX5 hown hG.1 hP 0 rfl rfl 1 (Nat.le_of_ble_eq_true rfl) (hts _ tw_1_137) (fun _ h9 => h9) rfl dX5_endPart_64 ?_
    refine lv_iconst (v := 1) hx hb dX5_endPart_67 li_1 ?_
    refine va_iald hx hb hG.1 hP 1 0 rfl rfl (vpi (by decide)) dX5_endPart_68 ?_
    refine lv_aload_n hx hb dX5_endPart_69 rfl (lv_at hl 0 rfl) ?_
    refine va_get (D := G.1) (cl := vwCl) (tys := tysG G) (ci := 5) (v := .ref (ee 2)) (C := RX5) (T := TX5) (N := 5) hx hb hts iX5 hown hG.1 hP 0 rfl rfl 1 (Nat.le_of_ble_eq_true rfl) (hts _ tw_1_137) (fun _ h9 => h9) rfl dX5_endPart_70 ?_
    refine lv_iconst (v := 2) hx hb dX5_endPart_73 li_2 ?_
    refine va_iald hx hb hG.1 hP 1 0 rfl rfl (vpi (by decide)) dX5_endPart_74 ?_
    obtain ⟨r2, hc3, h⟩ := bd_ex h
    refine sl_V (q0 := 3) (ci := 1) (C := RX1) K (mX1_insert l G F bb σbb (σbb.1 3) (σee.2.1 1 (0 : Int32).toNatClampNeg) (σee.2.1 1 (1 : Int32).toNatClampNeg) (σee.2.1 1 (2 : Int32).toNatClampNeg) hc3) tw_2_238 tw_1_5 tw_2_236 tw_2_237 tw_2_235 cdX1_insert ⟨Nat.le_of_ble_eq_true rfl, Nat.le_of_ble_eq_true rfl⟩ hP hD hS [2] rfl rfl rfl rfl rfl rfl rfl hl.1 (Nat.le_of_ble_eq_true rfl) ⟨Nat.zero_le _, Nat.zero_le _⟩ dX5_endPart_75 (fun H locs hP hD hS => ?_)
    have hP : va_P G.1 vwCl (List.flatten [wE G ee ff σee, wF ff (bb 0) (dd 0), wB G bb r2, wD G dd σdd]) H := hP
    have hD : va_D A (List.flatten [wE G ee ff σee, wF ff (bb 0) (dd 0), wB G bb r2, wD G dd σdd]) := hD
    refine lv_goto (tgt := 137) hx hb dX5_endPart_78 (by decide) ?_
    refine lv_aload_n hx hb dX5_endPart_137 rfl (lv_at hl 0 rfl) ?_
    refine lv_iconst (v := 0) hx hb dX5_endPart_138 li_0 ?_
    obtain ⟨s4, e5, h⟩ := nm_ex h
    refine va_put (D := G.1) (cl := vwCl) (tys := tysG G) (ci := 5) (v := .int (0 : Int32)) (ty := .int) (C := RX5) (T := TX5) (N := 5) hx hb hts iX5 tyX5 tyX5_ok nmX5 hown hG.1 hP hD hS 0 rfl rfl 3 (Nat.le_of_ble_eq_true rfl) (hts _ tw_1_139) (fun _ h9 => h9) rfl (by decide +kernel) rfl rfl (Nat.le_of_ble_eq_true rfl) dX5_endPart_139 (fun H locs hP hD hS => ?_)
    have hP : va_P G.1 vwCl (List.flatten [wE G ee ff s4, wF ff (bb 0) (dd 0), wB G bb r2, wD G dd σdd]) H := by rw [e5]; exact hP
    have hD : va_D A (List.flatten [wE G ee ff s4, wF ff (bb 0) (dd 0), wB G bb r2, wD G dd σdd]) := by rw [e5]; exact hD
    refine lv_aload_n hx hb dX5_endPart_142 rfl (lv_at hl 0 rfl) ?_
    refine lv_iconst (v := 0) hx hb dX5_endPart_143 li_0 ?_
    obtain ⟨s6, e7, h⟩ := nm_ex h
    refine va_put (D := G.1) (cl := vwCl) (tys := tysG G) (ci := 5) (v := .int (0 : Int32)) (ty := .int) (C := RX5) (T := TX5) (N := 5) hx hb hts iX5 tyX5 tyX5_ok nmX5 hown hG.1 hP hD hS 0 rfl rfl 2 (Nat.le_of_ble_eq_true rfl) (hts _ tw_1_138) (fun _ h9 => h9) rfl (by decide +kernel) rfl rfl (Nat.le_of_ble_eq_true rfl) dX5_endPart_144 (fun H locs hP hD hS => ?_)
    have hP : va_P G.1 vwCl (List.flatten [wE G ee ff s6, wF ff (bb 0) (dd 0), wB G bb r2, wD G dd σdd]) H := by rw [e7]; exact hP
    have hD : va_D A (List.flatten [wE G ee ff s6, wF ff (bb 0) (dd 0), wB G bb r2, wD G dd σdd]) := by rw [e7]; exact hD
    cases h
    exact rt_v K hP hD hS dX5_endPart_147
  have h := if_f c1 h
  by_cases c8 : (σee.1 3) = 72
  · have h := if_t c8 h
    refine lv_lookup (off := 77) (tgt := 81) hx hb dX5_endPart_4 (by decide) (by rw [c8] <;> rfl) (by decide) ?_
    refine lv_aload_n hx hb dX5_endPart_81 rfl (lv_at hl 0 rfl) ?_
    refine va_get (D := G.1) (cl := vwCl) (tys := tysG G) (ci := 5) (v := .ref ff) (C := RX5) (T := TX5) (N := 5) hx hb hts iX5 hown hG.1 hP 0 rfl rfl 0 (Nat.le_of_ble_eq_true rfl) (hts _ tw_1_135) (fun _ h9 => h9) rfl dX5_endPart_82 ?_
    refine va_get (D := G.1) (cl := vwCl) (tys := tysG G) (ci := 2) (v := .ref (dd 0)) (C := RX2) (T := TX2) (N := 2) hx hb hts iX2 hown hG.1 hP 2 rfl rfl 1 (Nat.le_of_ble_eq_true rfl) (hts _ tw_1_128) (fun _ h9 => h9) rfl dX5_endPart_85 ?_
    refine lv_aload_n hx hb dX5_endPart_88 rfl (lv_at hl 0 rfl) ?_
    refine va_get (D := G.1) (cl := vwCl) (tys := tysG G) (ci := 5) (v := .ref (ee 2)) (C := RX5) (T := TX5) (N := 5) hx hb hts iX5 hown hG.1 hP 0 rfl rfl 1 (Nat.le_of_ble_eq_true rfl) (hts _ tw_1_137) (fun _ h9 => h9) rfl dX5_endPart_89 ?_
    obtain ⟨r9, hc10, h⟩ := bd_ex h
    refine cl_V (q0 := 7) (ci := 4) (C := RX4) K (mX4_addHill l G F dd (ee 2) σdd (σee.2.1 1) hc10) tw_3_7 tw_1_6 tw_3_5 tw_3_6 tw_3_4 cdX4_addHill ⟨Nat.le_of_ble_eq_true rfl, Nat.le_of_ble_eq_true rfl⟩ hP hD hS [7, 8, 9, 10, 11, 12, 13, 14, 15, 16, 17, 1] rfl rfl rfl rfl rfl rfl rfl hl.1 (Nat.le_of_ble_eq_true rfl) ⟨Nat.zero_le _, Nat.zero_le _⟩ dX5_endPart_92 (fun H locs hP hD hS => ?_)
    have hP : va_P G.1 vwCl (List.flatten [wE G ee ff σee, wF ff (bb 0) (dd 0), wB G bb σbb, wD G dd r9]) H := hP
    have hD : va_D A (List.flatten [wE G ee ff σee, wF ff (bb 0) (dd 0), wB G bb σbb, wD G dd r9]) := hD
    refine lv_goto (tgt := 137) hx hb dX5_endPart_95 (by decide) ?_
    refine lv_aload_n hx hb dX5_endPart_137 rfl (lv_at hl 0 rfl) ?_
    refine lv_iconst (v := 0) hx hb dX5_endPart_138 li_0 ?_
    obtain ⟨s11, e12, h⟩ := nm_ex h
    refine va_put (D := G.1) (cl := vwCl) (tys := tysG G) (ci := 5) (v := .int (0 : Int32)) (ty := .int) (C := RX5) (T := TX5) (N := 5) hx hb hts iX5 tyX5 tyX5_ok nmX5 hown hG.1 hP hD hS 0 rfl rfl 3 (Nat.le_of_ble_eq_true rfl) (hts _ tw_1_139) (fun _ h9 => h9) rfl (by decide +kernel) rfl rfl (Nat.le_of_ble_eq_true rfl) dX5_endPart_139 (fun H locs hP hD hS => ?_)
    have hP : va_P G.1 vwCl (List.flatten [wE G ee ff s11, wF ff (bb 0) (dd 0), wB G bb σbb, wD G dd r9]) H := by rw [e12]; exact hP
    have hD : va_D A (List.flatten [wE G ee ff s11, wF ff (bb 0) (dd 0), wB G bb σbb, wD G dd r9]) := by rw [e12]; exact hD
    refine lv_aload_n hx hb dX5_endPart_142 rfl (lv_at hl 0 rfl) ?_
    refine lv_iconst (v := 0) hx hb dX5_endPart_143 li_0 ?_
    obtain ⟨s13, e14, h⟩ := nm_ex h
    refine va_put (D := G.1) (cl := vwCl) (tys := tysG G) (ci := 5) (v := .int (0 : Int32)) (ty := .int) (C := RX5) (T := TX5) (N := 5) hx hb hts iX5 tyX5 tyX5_ok nmX5 hown hG.1 hP hD hS 0 rfl rfl 2 (Nat.le_of_ble_eq_true rfl) (hts _ tw_1_138) (fun _ h9 => h9) rfl (by decide +kernel) rfl rfl (Nat.le_of_ble_eq_true rfl) dX5_endPart_144 (fun H locs hP hD hS => ?_)
    have hP : va_P G.1 vwCl (List.flatten [wE G ee ff s13, wF ff (bb 0) (dd 0), wB G bb σbb, wD G dd r9]) H := by rw [e14]; exact hP
    have hD : va_D A (List.flatten [wE G ee ff s13, wF ff (bb 0) (dd 0), wB G bb σbb, wD G dd r9]) := by rw [e14]; exact hD
    cases h
    exact rt_v K hP hD hS dX5_endPart_147
  have h := if_f c8 h
  by_cases c15 : (σee.1 3) = 76
  · have h := if_t c15 h
    refine lv_lookup (off := 94) (tgt := 98) hx hb dX5_endPart_4 (by decide) (by rw [c15] <;> rfl) (by decide) ?_
    refine lv_aload_n hx hb dX5_endPart_98 rfl (lv_at hl 0 rfl) ?_
    refine va_get (D := G.1) (cl := vwCl) (tys := tysG G) (ci := 5) (v := .ref ff) (C := RX5) (T := TX5) (N := 5) hx hb hts iX5 hown hG.1 hP 0 rfl rfl 0 (Nat.le_of_ble_eq_true rfl) (hts _ tw_1_135) (fun _ h9 => h9) rfl dX5_endPart_99 ?_
    refine va_get (D := G.1) (cl := vwCl) (tys := tysG G) (ci := 2) (v := .ref (dd 0)) (C := RX2) (T := TX2) (N := 2) hx hb hts iX2 hown hG.1 hP 2 rfl rfl 1 (Nat.le_of_ble_eq_true rfl) (hts _ tw_1_128) (fun _ h9 => h9) rfl dX5_endPart_102 ?_
    refine lv_aload_n hx hb dX5_endPart_105 rfl (lv_at hl 0 rfl) ?_
    refine va_get (D := G.1) (cl := vwCl) (tys := tysG G) (ci := 5) (v := .ref (ee 2)) (C := RX5) (T := TX5) (N := 5) hx hb hts iX5 hown hG.1 hP 0 rfl rfl 1 (Nat.le_of_ble_eq_true rfl) (hts _ tw_1_137) (fun _ h9 => h9) rfl dX5_endPart_106 ?_
    refine lv_iconst (v := 0) hx hb dX5_endPart_109 li_0 ?_
    refine va_iald hx hb hG.1 hP 1 0 rfl rfl (vpi (by decide)) dX5_endPart_110 ?_
    refine lv_aload_n hx hb dX5_endPart_111 rfl (lv_at hl 0 rfl) ?_
    refine va_get (D := G.1) (cl := vwCl) (tys := tysG G) (ci := 5) (v := .ref (ee 2)) (C := RX5) (T := TX5) (N := 5) hx hb hts iX5 hown hG.1 hP 0 rfl rfl 1 (Nat.le_of_ble_eq_true rfl) (hts _ tw_1_137) (fun _ h9 => h9) rfl dX5_endPart_112 ?_
    refine lv_iconst (v := 1) hx hb dX5_endPart_115 li_1 ?_
    refine va_iald hx hb hG.1 hP 1 0 rfl rfl (vpi (by decide)) dX5_endPart_116 ?_
    obtain ⟨r16, hc17, h⟩ := bd_ex h
    refine sl_V (q0 := 7) (ci := 4) (C := RX4) K (mX4_addCliff l G F dd σdd (σee.2.1 1 (0 : Int32).toNatClampNeg) (σee.2.1 1 (1 : Int32).toNatClampNeg) hc17) tw_3_17 tw_1_6 tw_3_15 tw_3_16 tw_3_14 cdX4_addCliff ⟨Nat.le_of_ble_eq_true rfl, Nat.le_of_ble_eq_true rfl⟩ hP hD hS [3] rfl rfl rfl rfl rfl rfl rfl hl.1 (Nat.le_of_ble_eq_true rfl) ⟨Nat.zero_le _, Nat.zero_le _⟩ dX5_endPart_117 (fun H locs hP hD hS => ?_)
    have hP : va_P G.1 vwCl (List.flatten [wE G ee ff σee, wF ff (bb 0) (dd 0), wB G bb σbb, wD G dd r16]) H := hP
    have hD : va_D A (List.flatten [wE G ee ff σee, wF ff (bb 0) (dd 0), wB G bb σbb, wD G dd r16]) := hD
    refine lv_goto (tgt := 137) hx hb dX5_endPart_120 (by decide) ?_
    refine lv_aload_n hx hb dX5_endPart_137 rfl (lv_at hl 0 rfl) ?_
    refine lv_iconst (v := 0) hx hb dX5_endPart_138 li_0 ?_
    obtain ⟨s18, e19, h⟩ := nm_ex h
    refine va_put (D := G.1) (cl := vwCl) (tys := tysG G) (ci := 5) (v := .int (0 : Int32)) (ty := .int) (C := RX5) (T := TX5) (N := 5) hx hb hts iX5 tyX5 tyX5_ok nmX5 hown hG.1 hP hD hS 0 rfl rfl 3 (Nat.le_of_ble_eq_true rfl) (hts _ tw_1_139) (fun _ h9 => h9) rfl (by decide +kernel) rfl rfl (Nat.le_of_ble_eq_true rfl) dX5_endPart_139 (fun H locs hP hD hS => ?_)
    have hP : va_P G.1 vwCl (List.flatten [wE G ee ff s18, wF ff (bb 0) (dd 0), wB G bb σbb, wD G dd r16]) H := by rw [e19]; exact hP
    have hD : va_D A (List.flatten [wE G ee ff s18, wF ff (bb 0) (dd 0), wB G bb σbb, wD G dd r16]) := by rw [e19]; exact hD
    refine lv_aload_n hx hb dX5_endPart_142 rfl (lv_at hl 0 rfl) ?_
    refine lv_iconst (v := 0) hx hb dX5_endPart_143 li_0 ?_
    obtain ⟨s20, e21, h⟩ := nm_ex h
    refine va_put (D := G.1) (cl := vwCl) (tys := tysG G) (ci := 5) (v := .int (0 : Int32)) (ty := .int) (C := RX5) (T := TX5) (N := 5) hx hb hts iX5 tyX5 tyX5_ok nmX5 hown hG.1 hP hD hS 0 rfl rfl 2 (Nat.le_of_ble_eq_true rfl) (hts _ tw_1_138) (fun _ h9 => h9) rfl (by decide +kernel) rfl rfl (Nat.le_of_ble_eq_true rfl) dX5_endPart_144 (fun H locs hP hD hS => ?_)
    have hP : va_P G.1 vwCl (List.flatten [wE G ee ff s20, wF ff (bb 0) (dd 0), wB G bb σbb, wD G dd r16]) H := by rw [e21]; exact hP
    have hD : va_D A (List.flatten [wE G ee ff s20, wF ff (bb 0) (dd 0), wB G bb σbb, wD G dd r16]) := by rw [e21]; exact hD
    cases h
    exact rt_v K hP hD hS dX5_endPart_147
  have h := if_f c15 h
  refine lv_lookup (off := 119) (tgt := 123) hx hb dX5_endPart_4 (by decide) ((lv_osw c1 rfl).trans ((lv_osw c8 rfl).trans ((lv_osw c15 rfl).trans rfl))) (by decide) ?_
  refine lv_aload_n hx hb dX5_endPart_123 rfl (lv_at hl 0 rfl) ?_
  refine va_get (D := G.1) (cl := vwCl) (tys := tysG G) (ci := 5) (v := .ref ff) (C := RX5) (T := TX5) (N := 5) hx hb hts iX5 hown hG.1 hP 0 rfl rfl 0 (Nat.le_of_ble_eq_true rfl) (hts _ tw_1_135) (fun _ h9 => h9) rfl dX5_endPart_124 ?_
  refine va_get (D := G.1) (cl := vwCl) (tys := tysG G) (ci := 2) (v := .ref (dd 0)) (C := RX2) (T := TX2) (N := 2) hx hb hts iX2 hown hG.1 hP 2 rfl rfl 1 (Nat.le_of_ble_eq_true rfl) (hts _ tw_1_128) (fun _ h9 => h9) rfl dX5_endPart_127 ?_
  refine lv_aload_n hx hb dX5_endPart_130 rfl (lv_at hl 0 rfl) ?_
  refine va_get (D := G.1) (cl := vwCl) (tys := tysG G) (ci := 5) (v := .ref (ee 2)) (C := RX5) (T := TX5) (N := 5) hx hb hts iX5 hown hG.1 hP 0 rfl rfl 1 (Nat.le_of_ble_eq_true rfl) (hts _ tw_1_137) (fun _ h9 => h9) rfl dX5_endPart_131 ?_
  obtain ⟨r22, hc23, h⟩ := bd_ex h
  refine cl_V (q0 := 7) (ci := 4) (C := RX4) K (mX4_addCloud l G F dd (ee 2) σdd (σee.2.1 1) hc23) tw_3_22 tw_1_6 tw_3_20 tw_3_21 tw_3_19 cdX4_addCloud ⟨Nat.le_of_ble_eq_true rfl, Nat.le_of_ble_eq_true rfl⟩ hP hD hS [7, 8, 9, 10, 11, 12, 13, 14, 15, 16, 17, 1] rfl rfl rfl rfl rfl rfl rfl hl.1 (Nat.le_of_ble_eq_true rfl) ⟨Nat.zero_le _, Nat.zero_le _⟩ dX5_endPart_134 (fun H locs hP hD hS => ?_)
  have hP : va_P G.1 vwCl (List.flatten [wE G ee ff σee, wF ff (bb 0) (dd 0), wB G bb σbb, wD G dd r22]) H := hP
  have hD : va_D A (List.flatten [wE G ee ff σee, wF ff (bb 0) (dd 0), wB G bb σbb, wD G dd r22]) := hD
  refine lv_aload_n hx hb dX5_endPart_137 rfl (lv_at hl 0 rfl) ?_
  refine lv_iconst (v := 0) hx hb dX5_endPart_138 li_0 ?_
  obtain ⟨s24, e25, h⟩ := nm_ex h
  refine va_put (D := G.1) (cl := vwCl) (tys := tysG G) (ci := 5) (v := .int (0 : Int32)) (ty := .int) (C := RX5) (T := TX5) (N := 5) hx hb hts iX5 tyX5 tyX5_ok nmX5 hown hG.1 hP hD hS 0 rfl rfl 3 (Nat.le_of_ble_eq_true rfl) (hts _ tw_1_139) (fun _ h9 => h9) rfl (by decide +kernel) rfl rfl (Nat.le_of_ble_eq_true rfl) dX5_endPart_139 (fun H locs hP hD hS => ?_)
  have hP : va_P G.1 vwCl (List.flatten [wE G ee ff s24, wF ff (bb 0) (dd 0), wB G bb σbb, wD G dd r22]) H := by rw [e25]; exact hP
  have hD : va_D A (List.flatten [wE G ee ff s24, wF ff (bb 0) (dd 0), wB G bb σbb, wD G dd r22]) := by rw [e25]; exact hD
  refine lv_aload_n hx hb dX5_endPart_142 rfl (lv_at hl 0 rfl) ?_
  refine lv_iconst (v := 0) hx hb dX5_endPart_143 li_0 ?_
  obtain ⟨s26, e27, h⟩ := nm_ex h
  refine va_put (D := G.1) (cl := vwCl) (tys := tysG G) (ci := 5) (v := .int (0 : Int32)) (ty := .int) (C := RX5) (T := TX5) (N := 5) hx hb hts iX5 tyX5 tyX5_ok nmX5 hown hG.1 hP hD hS 0 rfl rfl 2 (Nat.le_of_ble_eq_true rfl) (hts _ tw_1_138) (fun _ h9 => h9) rfl (by decide +kernel) rfl rfl (Nat.le_of_ble_eq_true rfl) dX5_endPart_144 (fun H locs hP hD hS => ?_)
  have hP : va_P G.1 vwCl (List.flatten [wE G ee ff s26, wF ff (bb 0) (dd 0), wB G bb σbb, wD G dd r22]) H := by rw [e27]; exact hP
  have hD : va_D A (List.flatten [wE G ee ff s26, wF ff (bb 0) (dd 0), wB G bb σbb, wD G dd r22]) := by rw [e27]; exact hD
  cases h
  exact rt_v K hP hD hS dX5_endPart_147
def fX5_accepts (F : Nat) (σee : ST) (σbb : ST) (σdd : ST) (x1 : Int32) : Option (Int32 × ST × ST × ST) :=
  if (σee.1 4) = 0 then
    if x1 = (71 : Int32) then
      nm (sI σee 4 (1 : Int32)) fun (s72 : ST) =>
      if ¬ ((s72.1 4) = 0 ∨ (s72.1 4) = 1) then none else
      some (s72.1 4, s72, σbb, σdd)
    else
      nm (sI σee 4 (0 : Int32)) fun (s69 : ST) =>
      if ¬ ((s69.1 4) = 0 ∨ (s69.1 4) = 1) then none else
      some (s69.1 4, s69, σbb, σdd)
  else
    if (σee.1 3) = 0 then
      (fX5_opensPart F σee σbb σdd x1).bind fun r59 =>
      if r59 = 0 then
        nm (sI σee 3 (0 : Int32)) fun (s62 : ST) =>
        if (s62.1 3) = 0 then
          some ((0 : Int32), s62, σbb, σdd)
        else
          some ((1 : Int32), s62, σbb, σdd)
      else
        nm (sI σee 3 x1) fun (s65 : ST) =>
        if (s65.1 3) = 0 then
          some ((0 : Int32), s65, σbb, σdd)
        else
          some ((1 : Int32), s65, σbb, σdd)
    else
      if (σee.1 3) = (66 : Int32) then
        if (σee.1 2) = 0 then
          (fJ0_indexOf_0f7a4 F ((x1.toUInt32 % 65536).toInt32)).bind fun r41 =>
          (fX10_isBelow F (σee.1 2) (4 : Int32)).bind fun r43 =>
          if r43 = 0 then
            some ((0 : Int32), σee, σbb, σdd)
          else
            (fX5_allows F σee σbb σdd r41).bind fun r46 =>
            if r46 = 0 then
              some ((0 : Int32), σee, σbb, σdd)
            else
              if (σee.1 2) < 0 ∨ 4 ≤ (σee.1 2).toNatClampNeg then none else
              nm (sA σee 1 (σee.1 2).toNatClampNeg r41) fun (s50 : ST) =>
              nm (sI s50 2 ((s50.1 2) + (1 : Int32))) fun (s52 : ST) =>
              (fX5_signsOfPart F s52).bind fun r54 =>
              if (s52.1 2) = r54 then
                (fX5_endPart F s52 σbb σdd).bind fun r57 =>
                some ((1 : Int32), r57.1, r57.2.1, r57.2.2)
              else
                some ((1 : Int32), s52, σbb, σdd)
        else
          (fX5_valueOf F x1).bind fun r23 =>
          (fX10_isBelow F (σee.1 2) (4 : Int32)).bind fun r25 =>
          if r25 = 0 then
            some ((0 : Int32), σee, σbb, σdd)
          else
            (fX5_allows F σee σbb σdd r23).bind fun r28 =>
            if r28 = 0 then
              some ((0 : Int32), σee, σbb, σdd)
            else
              if (σee.1 2) < 0 ∨ 4 ≤ (σee.1 2).toNatClampNeg then none else
              nm (sA σee 1 (σee.1 2).toNatClampNeg r23) fun (s32 : ST) =>
              nm (sI s32 2 ((s32.1 2) + (1 : Int32))) fun (s34 : ST) =>
              (fX5_signsOfPart F s34).bind fun r36 =>
              if (s34.1 2) = r36 then
                (fX5_endPart F s34 σbb σdd).bind fun r39 =>
                some ((1 : Int32), r39.1, r39.2.1, r39.2.2)
              else
                some ((1 : Int32), s34, σbb, σdd)
      else
        (fX5_valueOf F x1).bind fun r4 =>
        (fX10_isBelow F (σee.1 2) (4 : Int32)).bind fun r6 =>
        if r6 = 0 then
          some ((0 : Int32), σee, σbb, σdd)
        else
          (fX5_allows F σee σbb σdd r4).bind fun r9 =>
          if r9 = 0 then
            some ((0 : Int32), σee, σbb, σdd)
          else
            if (σee.1 2) < 0 ∨ 4 ≤ (σee.1 2).toNatClampNeg then none else
            nm (sA σee 1 (σee.1 2).toNatClampNeg r4) fun (s13 : ST) =>
            nm (sI s13 2 ((s13.1 2) + (1 : Int32))) fun (s15 : ST) =>
            (fX5_signsOfPart F s15).bind fun r17 =>
            if (s15.1 2) = r17 then
              (fX5_endPart F s15 σbb σdd).bind fun r20 =>
              some ((1 : Int32), r20.1, r20.2.1, r20.2.2)
            else
              some ((1 : Int32), s15, σbb, σdd)
theorem cdX5_accepts : CallD yX5_accepts 1 := by decide +kernel
set_option maxHeartbeats 4000000 in
set_option maxRecDepth 100000 in
theorem mX5_accepts (l : Launch) (G : GP) (F : Nat) (ee : Nat → Nat) (ff : Nat) (bb : Nat → Nat) (dd : Nat → Nat) (σee : ST) (σbb : ST) (σdd : ST) (x1 : Int32) {r : Int32 × ST × ST × ST} (h : fX5_accepts F σee σbb σdd x1 = some r) : CC l G yX5_accepts cX5_accepts 3 (some .boolean) 5 [.ref (ee 0), .int x1] (List.flatten [wE G ee ff σee, wF ff (bb 0) (dd 0), wB G bb σbb, wD G dd σdd]) (List.flatten [wE G ee ff r.2.1, wF ff (bb 0) (dd 0), wB G bb r.2.2.1, wD G dd r.2.2.2]) (some (.int r.1)) := by
  refine CC.of (by decide) (Nat.le_of_ble_eq_true rfl) ?_
  intro p e s m below meth c A K hP hD hS ls hl
  obtain ⟨hx, hb, hr, hml, hts, hown, hlocks, hA, hG⟩ := id K
  have hl : lv_has ls 3 [(0, .ref (ee 0)), (1, .int x1)] := hl
  unfold fX5_accepts at h
  refine lv_aload_n hx hb dX5_accepts_0 rfl (lv_at hl 0 rfl) ?_
  refine va_get (D := G.1) (cl := vwCl) (tys := tysG G) (ci := 5) (v := .int (σee.1 4)) (C := RX5) (T := TX5) (N := 5) hx hb hts iX5 hown hG.1 hP 0 rfl rfl 4 (Nat.le_of_ble_eq_true rfl) (hts _ tw_1_140) (fun _ h9 => h9) rfl dX5_accepts_1 ?_
  refine lv_if_ne (tgt := 27) hx hb dX5_accepts_4 (by decide) (fun c1 => ?_) (fun c1 => ?_)
  · have h := if_f c1 h
    refine lv_aload_n hx hb dX5_accepts_27 rfl (lv_at hl 0 rfl) ?_
    refine va_get (D := G.1) (cl := vwCl) (tys := tysG G) (ci := 5) (v := .int (σee.1 3)) (C := RX5) (T := TX5) (N := 5) hx hb hts iX5 hown hG.1 hP 0 rfl rfl 3 (Nat.le_of_ble_eq_true rfl) (hts _ tw_1_139) (fun _ h9 => h9) rfl dX5_accepts_28 ?_
    refine lv_if_ne (tgt := 64) hx hb dX5_accepts_31 (by decide) (fun c2 => ?_) (fun c2 => ?_)
    · have h := if_f c2 h
      refine lv_aload_n hx hb dX5_accepts_64 rfl (lv_at hl 0 rfl) ?_
      refine va_get (D := G.1) (cl := vwCl) (tys := tysG G) (ci := 5) (v := .int (σee.1 3)) (C := RX5) (T := TX5) (N := 5) hx hb hts iX5 hown hG.1 hP 0 rfl rfl 3 (Nat.le_of_ble_eq_true rfl) (hts _ tw_1_139) (fun _ h9 => h9) rfl dX5_accepts_65 ?_
      refine lv_bipush (v := 66) hx hb dX5_accepts_68 lb_66 ?_
      refine lv_icmp_ne (tgt := 90) hx hb dX5_accepts_70 (by decide) (fun c3 => ?_) (fun c3 => ?_)
      · have h := if_f c3 h
        refine lv_iload_n hx hb dX5_accepts_90 rfl (lv_at hl 1 rfl) ?_
        obtain ⟨r4, hc5, h⟩ := bd_ex h
        refine sl_S K (mX5_valueOf l G F x1 hc5) tw_2_191 tw_1_3 tw_2_190 tw_2_189 cdX5_valueOf ⟨Nat.le_of_ble_eq_true rfl, Nat.le_of_ble_eq_true rfl⟩ hP hD hS [] rfl rfl rfl rfl hl.1 (Nat.le_of_ble_eq_true rfl) ⟨Nat.zero_le _, Nat.zero_le _⟩ dX5_accepts_91 (fun H locs hP hD hS => ?_)
        have hP : va_P G.1 vwCl (List.flatten [wE G ee ff σee, wF ff (bb 0) (dd 0), wB G bb σbb, wD G dd σdd]) H := hP
        have hD : va_D A (List.flatten [wE G ee ff σee, wF ff (bb 0) (dd 0), wB G bb σbb, wD G dd σdd]) := hD
        refine lv_istore_n (lv' := [(2, .int r4), (0, .ref (ee 0)), (1, .int x1)]) hx hb dX5_accepts_94 rfl hl (Nat.le_of_ble_eq_true rfl) rfl (fun ls hl => ?_)
        refine lv_aload_n hx hb dX5_accepts_95 rfl (lv_at hl 1 rfl) ?_
        refine va_get (D := G.1) (cl := vwCl) (tys := tysG G) (ci := 5) (v := .int (σee.1 2)) (C := RX5) (T := TX5) (N := 5) hx hb hts iX5 hown hG.1 hP 0 rfl rfl 2 (Nat.le_of_ble_eq_true rfl) (hts _ tw_1_138) (fun _ h9 => h9) rfl dX5_accepts_96 ?_
        refine lv_aload_n hx hb dX5_accepts_99 rfl (lv_at hl 1 rfl) ?_
        refine va_get (D := G.1) (cl := vwCl) (tys := tysG G) (ci := 5) (v := .ref (ee 2)) (C := RX5) (T := TX5) (N := 5) hx hb hts iX5 hown hG.1 hP 0 rfl rfl 1 (Nat.le_of_ble_eq_true rfl) (hts _ tw_1_137) (fun _ h9 => h9) rfl dX5_accepts_100 ?_
        refine va_alen hx hb hG.1 hP 1 0 rfl rfl (v := 4) (show Int32.ofNat 4 = 4 by decide) dX5_accepts_103 ?_
        obtain ⟨r6, hc7, h⟩ := bd_ex h
        refine sl_SN K (mX10_isBelow l G F (σee.1 2) (4 : Int32) hc7) tw_2_194 tw_1_1 tw_2_193 tw_2_192 cdX10_isBelow ⟨Nat.le_of_ble_eq_true rfl, Nat.le_of_ble_eq_true rfl⟩ hP hD hS [] rfl rfl rfl rfl hl.1 (Nat.le_of_ble_eq_true rfl) ⟨Nat.zero_le _, Nat.zero_le _⟩ dX5_accepts_104 (fun H locs hP hD hS => ?_)
        have hP : va_P G.1 vwCl (List.flatten [wE G ee ff σee, wF ff (bb 0) (dd 0), wB G bb σbb, wD G dd σdd]) H := hP
        have hD : va_D A (List.flatten [wE G ee ff σee, wF ff (bb 0) (dd 0), wB G bb σbb, wD G dd σdd]) := hD
        refine lv_if_eq (tgt := 118) hx hb dX5_accepts_107 (by decide) (fun c8 => ?_) (fun c8 => ?_)
        · have h := if_t c8 h
          refine lv_iconst (v := 0) hx hb dX5_accepts_118 li_0 ?_
          cases h
          exact rt_z K (Or.inl rfl) hP hD hS dX5_accepts_119
        · have h := if_f c8 h
          refine lv_aload_n hx hb dX5_accepts_110 rfl (lv_at hl 1 rfl) ?_
          refine lv_iload_n hx hb dX5_accepts_111 rfl (lv_at hl 0 rfl) ?_
          obtain ⟨r9, hc10, h⟩ := bd_ex h
          refine sl_V (q0 := 0) (ci := 5) (C := RX5) K (mX5_allows l G F ee ff bb dd σee σbb σdd r4 hc10) tw_2_198 tw_1_3 tw_2_196 tw_2_197 tw_2_195 cdX5_allows ⟨Nat.le_of_ble_eq_true rfl, Nat.le_of_ble_eq_true rfl⟩ hP hD hS [0, 1, 2, 3] rfl rfl rfl rfl rfl rfl rfl hl.1 (Nat.le_of_ble_eq_true rfl) ⟨Nat.zero_le _, Nat.zero_le _⟩ dX5_accepts_112 (fun H locs hP hD hS => ?_)
          have hP : va_P G.1 vwCl (List.flatten [wE G ee ff σee, wF ff (bb 0) (dd 0), wB G bb σbb, wD G dd σdd]) H := hP
          have hD : va_D A (List.flatten [wE G ee ff σee, wF ff (bb 0) (dd 0), wB G bb σbb, wD G dd σdd]) := hD
          refine lv_if_ne (tgt := 120) hx hb dX5_accepts_115 (by decide) (fun c11 => ?_) (fun c11 => ?_)
          · have h := if_f c11 h
            refine lv_aload_n hx hb dX5_accepts_120 rfl (lv_at hl 1 rfl) ?_
            refine va_get (D := G.1) (cl := vwCl) (tys := tysG G) (ci := 5) (v := .ref (ee 2)) (C := RX5) (T := TX5) (N := 5) hx hb hts iX5 hown hG.1 hP 0 rfl rfl 1 (Nat.le_of_ble_eq_true rfl) (hts _ tw_1_137) (fun _ h9 => h9) rfl dX5_accepts_121 ?_
            refine lv_aload_n hx hb dX5_accepts_124 rfl (lv_at hl 1 rfl) ?_
            refine va_get (D := G.1) (cl := vwCl) (tys := tysG G) (ci := 5) (v := .int (σee.1 2)) (C := RX5) (T := TX5) (N := 5) hx hb hts iX5 hown hG.1 hP 0 rfl rfl 2 (Nat.le_of_ble_eq_true rfl) (hts _ tw_1_138) (fun _ h9 => h9) rfl dX5_accepts_125 ?_
            refine lv_iload_n hx hb dX5_accepts_128 rfl (lv_at hl 0 rfl) ?_
            obtain ⟨ck12, h⟩ := ck h
            obtain ⟨s13, e14, h⟩ := nm_ex h
            refine va_iast hx hb hG.1 hP hD hS 1 0 rfl rfl ck12 dX5_accepts_129 (fun H locs hP hD hS => ?_)
            have hP : va_P G.1 vwCl (List.flatten [wE G ee ff s13, wF ff (bb 0) (dd 0), wB G bb σbb, wD G dd σdd]) H := by rw [e14]; exact hP
            have hD : va_D A (List.flatten [wE G ee ff s13, wF ff (bb 0) (dd 0), wB G bb σbb, wD G dd σdd]) := by rw [e14]; exact hD
            refine lv_aload_n hx hb dX5_accepts_130 rfl (lv_at hl 1 rfl) ?_
            refine lv_dup hx hb dX5_accepts_131 rfl ?_
            refine va_get (D := G.1) (cl := vwCl) (tys := tysG G) (ci := 5) (v := .int (s13.1 2)) (C := RX5) (T := TX5) (N := 5) hx hb hts iX5 hown hG.1 hP 0 rfl rfl 2 (Nat.le_of_ble_eq_true rfl) (hts _ tw_1_138) (fun _ h9 => h9) rfl dX5_accepts_132 ?_
            refine lv_iconst (v := 1) hx hb dX5_accepts_135 li_1 ?_
            refine lv_iadd hx hb dX5_accepts_136 ?_
            obtain ⟨s15, e16, h⟩ := nm_ex h
            refine va_put (D := G.1) (cl := vwCl) (tys := tysG G) (ci := 5) (v := .int ((s13.1 2) + (1 : Int32))) (ty := .int) (C := RX5) (T := TX5) (N := 5) hx hb hts iX5 tyX5 tyX5_ok nmX5 hown hG.1 hP hD hS 0 rfl rfl 2 (Nat.le_of_ble_eq_true rfl) (hts _ tw_1_138) (fun _ h9 => h9) rfl (by decide +kernel) rfl rfl (Nat.le_of_ble_eq_true rfl) dX5_accepts_137 (fun H locs hP hD hS => ?_)
            have hP : va_P G.1 vwCl (List.flatten [wE G ee ff s15, wF ff (bb 0) (dd 0), wB G bb σbb, wD G dd σdd]) H := by rw [e16]; exact hP
            have hD : va_D A (List.flatten [wE G ee ff s15, wF ff (bb 0) (dd 0), wB G bb σbb, wD G dd σdd]) := by rw [e16]; exact hD
            refine lv_aload_n hx hb dX5_accepts_140 rfl (lv_at hl 1 rfl) ?_
            refine va_get (D := G.1) (cl := vwCl) (tys := tysG G) (ci := 5) (v := .int (s15.1 2)) (C := RX5) (T := TX5) (N := 5) hx hb hts iX5 hown hG.1 hP 0 rfl rfl 2 (Nat.le_of_ble_eq_true rfl) (hts _ tw_1_138) (fun _ h9 => h9) rfl dX5_accepts_141 ?_
            refine lv_aload_n hx hb dX5_accepts_144 rfl (lv_at hl 1 rfl) ?_
            obtain ⟨r17, hc18, h⟩ := bd_ex h
            refine sl_V (q0 := 0) (ci := 5) (C := RX5) K (mX5_signsOfPart l G F ee ff s15 hc18) tw_2_230 tw_1_3 tw_2_228 tw_2_229 tw_2_227 cdX5_signsOfPart ⟨Nat.le_of_ble_eq_true rfl, Nat.le_of_ble_eq_true rfl⟩ hP hD hS [0] rfl rfl rfl rfl rfl rfl rfl hl.1 (Nat.le_of_ble_eq_true rfl) ⟨Nat.zero_le _, Nat.zero_le _⟩ dX5_accepts_145 (fun H locs hP hD hS => ?_)
            have hP : va_P G.1 vwCl (List.flatten [wE G ee ff s15, wF ff (bb 0) (dd 0), wB G bb σbb, wD G dd σdd]) H := hP
            have hD : va_D A (List.flatten [wE G ee ff s15, wF ff (bb 0) (dd 0), wB G bb σbb, wD G dd σdd]) := hD
            refine lv_icmp_ne (tgt := 155) hx hb dX5_accepts_148 (by decide) (fun c19 => ?_) (fun c19 => ?_)
            · have h := if_f c19 h
              refine lv_iconst (v := 1) hx hb dX5_accepts_155 li_1 ?_
              cases h
              exact rt_z K (Or.inr rfl) hP hD hS dX5_accepts_156
            · have h := if_t c19 h
              refine lv_aload_n hx hb dX5_accepts_151 rfl (lv_at hl 1 rfl) ?_
              obtain ⟨r20, hc21, h⟩ := bd_ex h
              refine sl_V (q0 := 0) (ci := 5) (C := RX5) K (mX5_endPart l G F ee ff bb dd s15 σbb σdd hc21) tw_2_234 tw_1_3 tw_2_232 tw_2_233 tw_2_231 cdX5_endPart ⟨Nat.le_of_ble_eq_true rfl, Nat.le_of_ble_eq_true rfl⟩ hP hD hS [0, 1, 2, 3] rfl rfl rfl rfl rfl rfl rfl hl.1 (Nat.le_of_ble_eq_true rfl) ⟨Nat.zero_le _, Nat.zero_le _⟩ dX5_accepts_152 (fun H locs hP hD hS => ?_)
              have hP : va_P G.1 vwCl (List.flatten [wE G ee ff r20.1, wF ff (bb 0) (dd 0), wB G bb r20.2.1, wD G dd r20.2.2]) H := hP
              have hD : va_D A (List.flatten [wE G ee ff r20.1, wF ff (bb 0) (dd 0), wB G bb r20.2.1, wD G dd r20.2.2]) := hD
              refine lv_iconst (v := 1) hx hb dX5_accepts_155 li_1 ?_
              cases h
              exact rt_z K (Or.inr rfl) hP hD hS dX5_accepts_156
          · have h := if_t c11 h
            refine lv_iconst (v := 0) hx hb dX5_accepts_118 li_0 ?_
            cases h
            exact rt_z K (Or.inl rfl) hP hD hS dX5_accepts_119
      · have h := if_t c3 h
        refine lv_aload_n hx hb dX5_accepts_73 rfl (lv_at hl 0 rfl) ?_
        refine va_get (D := G.1) (cl := vwCl) (tys := tysG G) (ci := 5) (v := .int (σee.1 2)) (C := RX5) (T := TX5) (N := 5) hx hb hts iX5 hown hG.1 hP 0 rfl rfl 2 (Nat.le_of_ble_eq_true rfl) (hts _ tw_1_138) (fun _ h9 => h9) rfl dX5_accepts_74 ?_
        refine lv_if_ne (tgt := 90) hx hb dX5_accepts_77 (by decide) (fun c22 => ?_) (fun c22 => ?_)
        · have h := if_f c22 h
          refine lv_iload_n hx hb dX5_accepts_90 rfl (lv_at hl 1 rfl) ?_
          obtain ⟨r23, hc24, h⟩ := bd_ex h
          refine sl_S K (mX5_valueOf l G F x1 hc24) tw_2_191 tw_1_3 tw_2_190 tw_2_189 cdX5_valueOf ⟨Nat.le_of_ble_eq_true rfl, Nat.le_of_ble_eq_true rfl⟩ hP hD hS [] rfl rfl rfl rfl hl.1 (Nat.le_of_ble_eq_true rfl) ⟨Nat.zero_le _, Nat.zero_le _⟩ dX5_accepts_91 (fun H locs hP hD hS => ?_)
          have hP : va_P G.1 vwCl (List.flatten [wE G ee ff σee, wF ff (bb 0) (dd 0), wB G bb σbb, wD G dd σdd]) H := hP
          have hD : va_D A (List.flatten [wE G ee ff σee, wF ff (bb 0) (dd 0), wB G bb σbb, wD G dd σdd]) := hD
          refine lv_istore_n (lv' := [(2, .int r23), (0, .ref (ee 0)), (1, .int x1)]) hx hb dX5_accepts_94 rfl hl (Nat.le_of_ble_eq_true rfl) rfl (fun ls hl => ?_)
          refine lv_aload_n hx hb dX5_accepts_95 rfl (lv_at hl 1 rfl) ?_
          refine va_get (D := G.1) (cl := vwCl) (tys := tysG G) (ci := 5) (v := .int (σee.1 2)) (C := RX5) (T := TX5) (N := 5) hx hb hts iX5 hown hG.1 hP 0 rfl rfl 2 (Nat.le_of_ble_eq_true rfl) (hts _ tw_1_138) (fun _ h9 => h9) rfl dX5_accepts_96 ?_
          refine lv_aload_n hx hb dX5_accepts_99 rfl (lv_at hl 1 rfl) ?_
          refine va_get (D := G.1) (cl := vwCl) (tys := tysG G) (ci := 5) (v := .ref (ee 2)) (C := RX5) (T := TX5) (N := 5) hx hb hts iX5 hown hG.1 hP 0 rfl rfl 1 (Nat.le_of_ble_eq_true rfl) (hts _ tw_1_137) (fun _ h9 => h9) rfl dX5_accepts_100 ?_
          refine va_alen hx hb hG.1 hP 1 0 rfl rfl (v := 4) (show Int32.ofNat 4 = 4 by decide) dX5_accepts_103 ?_
          obtain ⟨r25, hc26, h⟩ := bd_ex h
          refine sl_SN K (mX10_isBelow l G F (σee.1 2) (4 : Int32) hc26) tw_2_194 tw_1_1 tw_2_193 tw_2_192 cdX10_isBelow ⟨Nat.le_of_ble_eq_true rfl, Nat.le_of_ble_eq_true rfl⟩ hP hD hS [] rfl rfl rfl rfl hl.1 (Nat.le_of_ble_eq_true rfl) ⟨Nat.zero_le _, Nat.zero_le _⟩ dX5_accepts_104 (fun H locs hP hD hS => ?_)
          have hP : va_P G.1 vwCl (List.flatten [wE G ee ff σee, wF ff (bb 0) (dd 0), wB G bb σbb, wD G dd σdd]) H := hP
          have hD : va_D A (List.flatten [wE G ee ff σee, wF ff (bb 0) (dd 0), wB G bb σbb, wD G dd σdd]) := hD
          refine lv_if_eq (tgt := 118) hx hb dX5_accepts_107 (by decide) (fun c27 => ?_) (fun c27 => ?_)
          · have h := if_t c27 h
            refine lv_iconst (v := 0) hx hb dX5_accepts_118 li_0 ?_
            cases h
            exact rt_z K (Or.inl rfl) hP hD hS dX5_accepts_119
          · have h := if_f c27 h
            refine lv_aload_n hx hb dX5_accepts_110 rfl (lv_at hl 1 rfl) ?_
            refine lv_iload_n hx hb dX5_accepts_111 rfl (lv_at hl 0 rfl) ?_
            obtain ⟨r28, hc29, h⟩ := bd_ex h
            refine sl_V (q0 := 0) (ci := 5) (C := RX5) K (mX5_allows l G F ee ff bb dd σee σbb σdd r23 hc29) tw_2_198 tw_1_3 tw_2_196 tw_2_197 tw_2_195 cdX5_allows ⟨Nat.le_of_ble_eq_true rfl, Nat.le_of_ble_eq_true rfl⟩ hP hD hS [0, 1, 2, 3] rfl rfl rfl rfl rfl rfl rfl hl.1 (Nat.le_of_ble_eq_true rfl) ⟨Nat.zero_le _, Nat.zero_le _⟩ dX5_accepts_112 (fun H locs hP hD hS => ?_)
            have hP : va_P G.1 vwCl (List.flatten [wE G ee ff σee, wF ff (bb 0) (dd 0), wB G bb σbb, wD G dd σdd]) H := hP
            have hD : va_D A (List.flatten [wE G ee ff σee, wF ff (bb 0) (dd 0), wB G bb σbb, wD G dd σdd]) := hD
            refine lv_if_ne (tgt := 120) hx hb dX5_accepts_115 (by decide) (fun c30 => ?_) (fun c30 => ?_)
            · have h := if_f c30 h
              refine lv_aload_n hx hb dX5_accepts_120 rfl (lv_at hl 1 rfl) ?_
              refine va_get (D := G.1) (cl := vwCl) (tys := tysG G) (ci := 5) (v := .ref (ee 2)) (C := RX5) (T := TX5) (N := 5) hx hb hts iX5 hown hG.1 hP 0 rfl rfl 1 (Nat.le_of_ble_eq_true rfl) (hts _ tw_1_137) (fun _ h9 => h9) rfl dX5_accepts_121 ?_
              refine lv_aload_n hx hb dX5_accepts_124 rfl (lv_at hl 1 rfl) ?_
              refine va_get (D := G.1) (cl := vwCl) (tys := tysG G) (ci := 5) (v := .int (σee.1 2)) (C := RX5) (T := TX5) (N := 5) hx hb hts iX5 hown hG.1 hP 0 rfl rfl 2 (Nat.le_of_ble_eq_true rfl) (hts _ tw_1_138) (fun _ h9 => h9) rfl dX5_accepts_125 ?_
              refine lv_iload_n hx hb dX5_accepts_128 rfl (lv_at hl 0 rfl) ?_
              obtain ⟨ck31, h⟩ := ck h
              obtain ⟨s32, e33, h⟩ := nm_ex h
              refine va_iast hx hb hG.1 hP hD hS 1 0 rfl rfl ck31 dX5_accepts_129 (fun H locs hP hD hS => ?_)
              have hP : va_P G.1 vwCl (List.flatten [wE G ee ff s32, wF ff (bb 0) (dd 0), wB G bb σbb, wD G dd σdd]) H := by rw [e33]; exact hP
              have hD : va_D A (List.flatten [wE G ee ff s32, wF ff (bb 0) (dd 0), wB G bb σbb, wD G dd σdd]) := by rw [e33]; exact hD
              refine lv_aload_n hx hb dX5_accepts_130 rfl (lv_at hl 1 rfl) ?_
              refine lv_dup hx hb dX5_accepts_131 rfl ?_
              refine va_get (D := G.1) (cl := vwCl) (tys := tysG G) (ci := 5) (v := .int (s32.1 2)) (C := RX5) (T := TX5) (N := 5) hx hb hts iX5 hown hG.1 hP 0 rfl rfl 2 (Nat.le_of_ble_eq_true rfl) (hts _ tw_1_138) (fun _ h9 => h9) rfl dX5_accepts_132 ?_
              refine lv_iconst (v := 1) hx hb dX5_accepts_135 li_1 ?_
              refine lv_iadd hx hb dX5_accepts_136 ?_
              obtain ⟨s34, e35, h⟩ := nm_ex h
              refine va_put (D := G.1) (cl := vwCl) (tys := tysG G) (ci := 5) (v := .int ((s32.1 2) + (1 : Int32))) (ty := .int) (C := RX5) (T := TX5) (N := 5) hx hb hts iX5 tyX5 tyX5_ok nmX5 hown hG.1 hP hD hS 0 rfl rfl 2 (Nat.le_of_ble_eq_true rfl) (hts _ tw_1_138) (fun _ h9 => h9) rfl (by decide +kernel) rfl rfl (Nat.le_of_ble_eq_true rfl) dX5_accepts_137 (fun H locs hP hD hS => ?_)
              have hP : va_P G.1 vwCl (List.flatten [wE G ee ff s34, wF ff (bb 0) (dd 0), wB G bb σbb, wD G dd σdd]) H := by rw [e35]; exact hP
              have hD : va_D A (List.flatten [wE G ee ff s34, wF ff (bb 0) (dd 0), wB G bb σbb, wD G dd σdd]) := by rw [e35]; exact hD
              refine lv_aload_n hx hb dX5_accepts_140 rfl (lv_at hl 1 rfl) ?_
              refine va_get (D := G.1) (cl := vwCl) (tys := tysG G) (ci := 5) (v := .int (s34.1 2)) (C := RX5) (T := TX5) (N := 5) hx hb hts iX5 hown hG.1 hP 0 rfl rfl 2 (Nat.le_of_ble_eq_true rfl) (hts _ tw_1_138) (fun _ h9 => h9) rfl dX5_accepts_141 ?_
              refine lv_aload_n hx hb dX5_accepts_144 rfl (lv_at hl 1 rfl) ?_
              obtain ⟨r36, hc37, h⟩ := bd_ex h
              refine sl_V (q0 := 0) (ci := 5) (C := RX5) K (mX5_signsOfPart l G F ee ff s34 hc37) tw_2_230 tw_1_3 tw_2_228 tw_2_229 tw_2_227 cdX5_signsOfPart ⟨Nat.le_of_ble_eq_true rfl, Nat.le_of_ble_eq_true rfl⟩ hP hD hS [0] rfl rfl rfl rfl rfl rfl rfl hl.1 (Nat.le_of_ble_eq_true rfl) ⟨Nat.zero_le _, Nat.zero_le _⟩ dX5_accepts_145 (fun H locs hP hD hS => ?_)
              have hP : va_P G.1 vwCl (List.flatten [wE G ee ff s34, wF ff (bb 0) (dd 0), wB G bb σbb, wD G dd σdd]) H := hP
              have hD : va_D A (List.flatten [wE G ee ff s34, wF ff (bb 0) (dd 0), wB G bb σbb, wD G dd σdd]) := hD
              refine lv_icmp_ne (tgt := 155) hx hb dX5_accepts_148 (by decide) (fun c38 => ?_) (fun c38 => ?_)
              · have h := if_f c38 h
                refine lv_iconst (v := 1) hx hb dX5_accepts_155 li_1 ?_
                cases h
                exact rt_z K (Or.inr rfl) hP hD hS dX5_accepts_156
              · have h := if_t c38 h
                refine lv_aload_n hx hb dX5_accepts_151 rfl (lv_at hl 1 rfl) ?_
                obtain ⟨r39, hc40, h⟩ := bd_ex h
                refine sl_V (q0 := 0) (ci := 5) (C := RX5) K (mX5_endPart l G F ee ff bb dd s34 σbb σdd hc40) tw_2_234 tw_1_3 tw_2_232 tw_2_233 tw_2_231 cdX5_endPart ⟨Nat.le_of_ble_eq_true rfl, Nat.le_of_ble_eq_true rfl⟩ hP hD hS [0, 1, 2, 3] rfl rfl rfl rfl rfl rfl rfl hl.1 (Nat.le_of_ble_eq_true rfl) ⟨Nat.zero_le _, Nat.zero_le _⟩ dX5_accepts_152 (fun H locs hP hD hS => ?_)
                have hP : va_P G.1 vwCl (List.flatten [wE G ee ff r39.1, wF ff (bb 0) (dd 0), wB G bb r39.2.1, wD G dd r39.2.2]) H := hP
                have hD : va_D A (List.flatten [wE G ee ff r39.1, wF ff (bb 0) (dd 0), wB G bb r39.2.1, wD G dd r39.2.2]) := hD
                refine lv_iconst (v := 1) hx hb dX5_accepts_155 li_1 ?_
                cases h
                exact rt_z K (Or.inr rfl) hP hD hS dX5_accepts_156
            · have h := if_t c30 h
              refine lv_iconst (v := 0) hx hb dX5_accepts_118 li_0 ?_
              cases h
              exact rt_z K (Or.inl rfl) hP hD hS dX5_accepts_119
        · have h := if_t c22 h
          refine va_ldcS hx hb hown hG.2.2.2.2.2.2.1 dX5_accepts_80 ?_
          refine lv_iload_n hx hb dX5_accepts_82 rfl (lv_at hl 1 rfl) ?_
          refine lv_i2c (v := (x1.toUInt32 % 65536).toInt32) hx hb dX5_accepts_83 rfl ?_
          obtain ⟨r41, hc42, h⟩ := bd_ex h
          refine sl_R (C := RJ0) K (mJ0_indexOf_0f7a4 l G F ((x1.toUInt32 % 65536).toInt32) hc42) tw_2_106 tw_1_13 tw_2_104 tw_2_105 tw_2_103 cdJ0_indexOf_0f7a4 ⟨Nat.le_of_ble_eq_true rfl, Nat.le_of_ble_eq_true rfl⟩ hP hD hS [] rfl rfl rfl (vk_recv (adK := fun _ => G.2.2 2) (i := 0) hG.2.2.2.2.2.1 (Nat.lt_succ_self 0) hS) rfl hl.1 (Nat.le_of_ble_eq_true rfl) ⟨Nat.zero_le _, Nat.zero_le _⟩ dX5_accepts_84 (fun H locs hP hD hS => ?_)
          have hP : va_P G.1 vwCl (List.flatten [wE G ee ff σee, wF ff (bb 0) (dd 0), wB G bb σbb, wD G dd σdd]) H := hP
          have hD : va_D A (List.flatten [wE G ee ff σee, wF ff (bb 0) (dd 0), wB G bb σbb, wD G dd σdd]) := hD
          refine lv_goto (tgt := 94) hx hb dX5_accepts_87 (by decide) ?_
          refine lv_istore_n (lv' := [(2, .int r41), (0, .ref (ee 0)), (1, .int x1)]) hx hb dX5_accepts_94 rfl hl (Nat.le_of_ble_eq_true rfl) rfl (fun ls hl => ?_)
          refine lv_aload_n hx hb dX5_accepts_95 rfl (lv_at hl 1 rfl) ?_
          refine va_get (D := G.1) (cl := vwCl) (tys := tysG G) (ci := 5) (v := .int (σee.1 2)) (C := RX5) (T := TX5) (N := 5) hx hb hts iX5 hown hG.1 hP 0 rfl rfl 2 (Nat.le_of_ble_eq_true rfl) (hts _ tw_1_138) (fun _ h9 => h9) rfl dX5_accepts_96 ?_
          refine lv_aload_n hx hb dX5_accepts_99 rfl (lv_at hl 1 rfl) ?_
          refine va_get (D := G.1) (cl := vwCl) (tys := tysG G) (ci := 5) (v := .ref (ee 2)) (C := RX5) (T := TX5) (N := 5) hx hb hts iX5 hown hG.1 hP 0 rfl rfl 1 (Nat.le_of_ble_eq_true rfl) (hts _ tw_1_137) (fun _ h9 => h9) rfl dX5_accepts_100 ?_
          refine va_alen hx hb hG.1 hP 1 0 rfl rfl (v := 4) (show Int32.ofNat 4 = 4 by decide) dX5_accepts_103 ?_
          obtain ⟨r43, hc44, h⟩ := bd_ex h
          refine sl_SN K (mX10_isBelow l G F (σee.1 2) (4 : Int32) hc44) tw_2_194 tw_1_1 tw_2_193 tw_2_192 cdX10_isBelow ⟨Nat.le_of_ble_eq_true rfl, Nat.le_of_ble_eq_true rfl⟩ hP hD hS [] rfl rfl rfl rfl hl.1 (Nat.le_of_ble_eq_true rfl) ⟨Nat.zero_le _, Nat.zero_le _⟩ dX5_accepts_104 (fun H locs hP hD hS => ?_)
          have hP : va_P G.1 vwCl (List.flatten [wE G ee ff σee, wF ff (bb 0) (dd 0), wB G bb σbb, wD G dd σdd]) H := hP
          have hD : va_D A (List.flatten [wE G ee ff σee, wF ff (bb 0) (dd 0), wB G bb σbb, wD G dd σdd]) := hD
          refine lv_if_eq (tgt := 118) hx hb dX5_accepts_107 (by decide) (fun c45 => ?_) (fun c45 => ?_)
          · have h := if_t c45 h
            refine lv_iconst (v := 0) hx hb dX5_accepts_118 li_0 ?_
            cases h
            exact rt_z K (Or.inl rfl) hP hD hS dX5_accepts_119
          · have h := if_f c45 h
            refine lv_aload_n hx hb dX5_accepts_110 rfl (lv_at hl 1 rfl) ?_
            refine lv_iload_n hx hb dX5_accepts_111 rfl (lv_at hl 0 rfl) ?_
            obtain ⟨r46, hc47, h⟩ := bd_ex h
            refine sl_V (q0 := 0) (ci := 5) (C := RX5) K (mX5_allows l G F ee ff bb dd σee σbb σdd r41 hc47) tw_2_198 tw_1_3 tw_2_196 tw_2_197 tw_2_195 cdX5_allows ⟨Nat.le_of_ble_eq_true rfl, Nat.le_of_ble_eq_true rfl⟩ hP hD hS [0, 1, 2, 3] rfl rfl rfl rfl rfl rfl rfl hl.1 (Nat.le_of_ble_eq_true rfl) ⟨Nat.zero_le _, Nat.zero_le _⟩ dX5_accepts_112 (fun H locs hP hD hS => ?_)
            have hP : va_P G.1 vwCl (List.flatten [wE G ee ff σee, wF ff (bb 0) (dd 0), wB G bb σbb, wD G dd σdd]) H := hP
            have hD : va_D A (List.flatten [wE G ee ff σee, wF ff (bb 0) (dd 0), wB G bb σbb, wD G dd σdd]) := hD
            refine lv_if_ne (tgt := 120) hx hb dX5_accepts_115 (by decide) (fun c48 => ?_) (fun c48 => ?_)
            · have h := if_f c48 h
              refine lv_aload_n hx hb dX5_accepts_120 rfl (lv_at hl 1 rfl) ?_
              refine va_get (D := G.1) (cl := vwCl) (tys := tysG G) (ci := 5) (v := .ref (ee 2)) (C := RX5) (T := TX5) (N := 5) hx hb hts iX5 hown hG.1 hP 0 rfl rfl 1 (Nat.le_of_ble_eq_true rfl) (hts _ tw_1_137) (fun _ h9 => h9) rfl dX5_accepts_121 ?_
              refine lv_aload_n hx hb dX5_accepts_124 rfl (lv_at hl 1 rfl) ?_
              refine va_get (D := G.1) (cl := vwCl) (tys := tysG G) (ci := 5) (v := .int (σee.1 2)) (C := RX5) (T := TX5) (N := 5) hx hb hts iX5 hown hG.1 hP 0 rfl rfl 2 (Nat.le_of_ble_eq_true rfl) (hts _ tw_1_138) (fun _ h9 => h9) rfl dX5_accepts_125 ?_
              refine lv_iload_n hx hb dX5_accepts_128 rfl (lv_at hl 0 rfl) ?_
              obtain ⟨ck49, h⟩ := ck h
              obtain ⟨s50, e51, h⟩ := nm_ex h
              refine va_iast hx hb hG.1 hP hD hS 1 0 rfl rfl ck49 dX5_accepts_129 (fun H locs hP hD hS => ?_)
              have hP : va_P G.1 vwCl (List.flatten [wE G ee ff s50, wF ff (bb 0) (dd 0), wB G bb σbb, wD G dd σdd]) H := by rw [e51]; exact hP
              have hD : va_D A (List.flatten [wE G ee ff s50, wF ff (bb 0) (dd 0), wB G bb σbb, wD G dd σdd]) := by rw [e51]; exact hD
              refine lv_aload_n hx hb dX5_accepts_130 rfl (lv_at hl 1 rfl) ?_
              refine lv_dup hx hb dX5_accepts_131 rfl ?_
              refine va_get (D := G.1) (cl := vwCl) (tys := tysG G) (ci := 5) (v := .int (s50.1 2)) (C := RX5) (T := TX5) (N := 5) hx hb hts iX5 hown hG.1 hP 0 rfl rfl 2 (Nat.le_of_ble_eq_true rfl) (hts _ tw_1_138) (fun _ h9 => h9) rfl dX5_accepts_132 ?_
              refine lv_iconst (v := 1) hx hb dX5_accepts_135 li_1 ?_
              refine lv_iadd hx hb dX5_accepts_136 ?_
              obtain ⟨s52, e53, h⟩ := nm_ex h
              refine va_put (D := G.1) (cl := vwCl) (tys := tysG G) (ci := 5) (v := .int ((s50.1 2) + (1 : Int32))) (ty := .int) (C := RX5) (T := TX5) (N := 5) hx hb hts iX5 tyX5 tyX5_ok nmX5 hown hG.1 hP hD hS 0 rfl rfl 2 (Nat.le_of_ble_eq_true rfl) (hts _ tw_1_138) (fun _ h9 => h9) rfl (by decide +kernel) rfl rfl (Nat.le_of_ble_eq_true rfl) dX5_accepts_137 (fun H locs hP hD hS => ?_)
              have hP : va_P G.1 vwCl (List.flatten [wE G ee ff s52, wF ff (bb 0) (dd 0), wB G bb σbb, wD G dd σdd]) H := by rw [e53]; exact hP
              have hD : va_D A (List.flatten [wE G ee ff s52, wF ff (bb 0) (dd 0), wB G bb σbb, wD G dd σdd]) := by rw [e53]; exact hD
              refine lv_aload_n hx hb dX5_accepts_140 rfl (lv_at hl 1 rfl) ?_
              refine va_get (D := G.1) (cl := vwCl) (tys := tysG G) (ci := 5) (v := .int (s52.1 2)) (C := RX5) (T := TX5) (N := 5) hx hb hts iX5 hown hG.1 hP 0 rfl rfl 2 (Nat.le_of_ble_eq_true rfl) (hts _ tw_1_138) (fun _ h9 => h9) rfl dX5_accepts_141 ?_
              refine lv_aload_n hx hb dX5_accepts_144 rfl (lv_at hl 1 rfl) ?_
              obtain ⟨r54, hc55, h⟩ := bd_ex h
              refine sl_V (q0 := 0) (ci := 5) (C := RX5) K (mX5_signsOfPart l G F ee ff s52 hc55) tw_2_230 tw_1_3 tw_2_228 tw_2_229 tw_2_227 cdX5_signsOfPart ⟨Nat.le_of_ble_eq_true rfl, Nat.le_of_ble_eq_true rfl⟩ hP hD hS [0] rfl rfl rfl rfl rfl rfl rfl hl.1 (Nat.le_of_ble_eq_true rfl) ⟨Nat.zero_le _, Nat.zero_le _⟩ dX5_accepts_145 (fun H locs hP hD hS => ?_)
              have hP : va_P G.1 vwCl (List.flatten [wE G ee ff s52, wF ff (bb 0) (dd 0), wB G bb σbb, wD G dd σdd]) H := hP
              have hD : va_D A (List.flatten [wE G ee ff s52, wF ff (bb 0) (dd 0), wB G bb σbb, wD G dd σdd]) := hD
              refine lv_icmp_ne (tgt := 155) hx hb dX5_accepts_148 (by decide) (fun c56 => ?_) (fun c56 => ?_)
              · have h := if_f c56 h
                refine lv_iconst (v := 1) hx hb dX5_accepts_155 li_1 ?_
                cases h
                exact rt_z K (Or.inr rfl) hP hD hS dX5_accepts_156
              · have h := if_t c56 h
                refine lv_aload_n hx hb dX5_accepts_151 rfl (lv_at hl 1 rfl) ?_
                obtain ⟨r57, hc58, h⟩ := bd_ex h
                refine sl_V (q0 := 0) (ci := 5) (C := RX5) K (mX5_endPart l G F ee ff bb dd s52 σbb σdd hc58) tw_2_234 tw_1_3 tw_2_232 tw_2_233 tw_2_231 cdX5_endPart ⟨Nat.le_of_ble_eq_true rfl, Nat.le_of_ble_eq_true rfl⟩ hP hD hS [0, 1, 2, 3] rfl rfl rfl rfl rfl rfl rfl hl.1 (Nat.le_of_ble_eq_true rfl) ⟨Nat.zero_le _, Nat.zero_le _⟩ dX5_accepts_152 (fun H locs hP hD hS => ?_)
                have hP : va_P G.1 vwCl (List.flatten [wE G ee ff r57.1, wF ff (bb 0) (dd 0), wB G bb r57.2.1, wD G dd r57.2.2]) H := hP
                have hD : va_D A (List.flatten [wE G ee ff r57.1, wF ff (bb 0) (dd 0), wB G bb r57.2.1, wD G dd r57.2.2]) := hD
                refine lv_iconst (v := 1) hx hb dX5_accepts_155 li_1 ?_
                cases h
                exact rt_z K (Or.inr rfl) hP hD hS dX5_accepts_156
            · have h := if_t c48 h
              refine lv_iconst (v := 0) hx hb dX5_accepts_118 li_0 ?_
              cases h
              exact rt_z K (Or.inl rfl) hP hD hS dX5_accepts_119
    · have h := if_t c2 h
      refine lv_aload_n hx hb dX5_accepts_34 rfl (lv_at hl 0 rfl) ?_
      refine lv_aload_n hx hb dX5_accepts_35 rfl (lv_at hl 0 rfl) ?_
      refine lv_iload_n hx hb dX5_accepts_36 rfl (lv_at hl 1 rfl) ?_
      obtain ⟨r59, hc60, h⟩ := bd_ex h
      refine sl_V (q0 := 0) (ci := 5) (C := RX5) K (mX5_opensPart l G F ee ff bb dd σee σbb σdd x1 hc60) tw_2_101 tw_1_3 tw_2_99 tw_2_100 tw_2_98 cdX5_opensPart ⟨Nat.le_of_ble_eq_true rfl, Nat.le_of_ble_eq_true rfl⟩ hP hD hS [0, 1, 2, 3] rfl rfl rfl rfl rfl rfl rfl hl.1 (Nat.le_of_ble_eq_true rfl) ⟨Nat.zero_le _, Nat.zero_le _⟩ dX5_accepts_37 (fun H locs hP hD hS => ?_)
      have hP : va_P G.1 vwCl (List.flatten [wE G ee ff σee, wF ff (bb 0) (dd 0), wB G bb σbb, wD G dd σdd]) H := hP
      have hD : va_D A (List.flatten [wE G ee ff σee, wF ff (bb 0) (dd 0), wB G bb σbb, wD G dd σdd]) := hD
      refine lv_if_eq (tgt := 47) hx hb dX5_accepts_40 (by decide) (fun c61 => ?_) (fun c61 => ?_)
      · have h := if_t c61 h
        refine lv_iconst (v := 0) hx hb dX5_accepts_47 li_0 ?_
        obtain ⟨s62, e63, h⟩ := nm_ex h
        refine va_put (D := G.1) (cl := vwCl) (tys := tysG G) (ci := 5) (v := .int (0 : Int32)) (ty := .int) (C := RX5) (T := TX5) (N := 5) hx hb hts iX5 tyX5 tyX5_ok nmX5 hown hG.1 hP hD hS 0 rfl rfl 3 (Nat.le_of_ble_eq_true rfl) (hts _ tw_1_139) (fun _ h9 => h9) rfl (by decide +kernel) rfl rfl (Nat.le_of_ble_eq_true rfl) dX5_accepts_48 (fun H locs hP hD hS => ?_)
        have hP : va_P G.1 vwCl (List.flatten [wE G ee ff s62, wF ff (bb 0) (dd 0), wB G bb σbb, wD G dd σdd]) H := by rw [e63]; exact hP
        have hD : va_D A (List.flatten [wE G ee ff s62, wF ff (bb 0) (dd 0), wB G bb σbb, wD G dd σdd]) := by rw [e63]; exact hD
        refine lv_aload_n hx hb dX5_accepts_51 rfl (lv_at hl 0 rfl) ?_
        refine va_get (D := G.1) (cl := vwCl) (tys := tysG G) (ci := 5) (v := .int (s62.1 3)) (C := RX5) (T := TX5) (N := 5) hx hb hts iX5 hown hG.1 hP 0 rfl rfl 3 (Nat.le_of_ble_eq_true rfl) (hts _ tw_1_139) (fun _ h9 => h9) rfl dX5_accepts_52 ?_
        refine lv_if_eq (tgt := 62) hx hb dX5_accepts_55 (by decide) (fun c64 => ?_) (fun c64 => ?_)
        · have h := if_t c64 h
          refine lv_iconst (v := 0) hx hb dX5_accepts_62 li_0 ?_
          cases h
          exact rt_z K (Or.inl rfl) hP hD hS dX5_accepts_63
        · have h := if_f c64 h
          refine lv_iconst (v := 1) hx hb dX5_accepts_58 li_1 ?_
          refine lv_goto (tgt := 63) hx hb dX5_accepts_59 (by decide) ?_
          cases h
          exact rt_z K (Or.inr rfl) hP hD hS dX5_accepts_63
      · have h := if_f c61 h
        refine lv_iload_n hx hb dX5_accepts_43 rfl (lv_at hl 1 rfl) ?_
        refine lv_goto (tgt := 48) hx hb dX5_accepts_44 (by decide) ?_
        obtain ⟨s65, e66, h⟩ := nm_ex h
        refine va_put (D := G.1) (cl := vwCl) (tys := tysG G) (ci := 5) (v := .int x1) (ty := .int) (C := RX5) (T := TX5) (N := 5) hx hb hts iX5 tyX5 tyX5_ok nmX5 hown hG.1 hP hD hS 0 rfl rfl 3 (Nat.le_of_ble_eq_true rfl) (hts _ tw_1_139) (fun _ h9 => h9) rfl (by decide +kernel) rfl rfl (Nat.le_of_ble_eq_true rfl) dX5_accepts_48 (fun H locs hP hD hS => ?_)
        have hP : va_P G.1 vwCl (List.flatten [wE G ee ff s65, wF ff (bb 0) (dd 0), wB G bb σbb, wD G dd σdd]) H := by rw [e66]; exact hP
        have hD : va_D A (List.flatten [wE G ee ff s65, wF ff (bb 0) (dd 0), wB G bb σbb, wD G dd σdd]) := by rw [e66]; exact hD
        refine lv_aload_n hx hb dX5_accepts_51 rfl (lv_at hl 0 rfl) ?_
        refine va_get (D := G.1) (cl := vwCl) (tys := tysG G) (ci := 5) (v := .int (s65.1 3)) (C := RX5) (T := TX5) (N := 5) hx hb hts iX5 hown hG.1 hP 0 rfl rfl 3 (Nat.le_of_ble_eq_true rfl) (hts _ tw_1_139) (fun _ h9 => h9) rfl dX5_accepts_52 ?_
        refine lv_if_eq (tgt := 62) hx hb dX5_accepts_55 (by decide) (fun c67 => ?_) (fun c67 => ?_)
        · have h := if_t c67 h
          refine lv_iconst (v := 0) hx hb dX5_accepts_62 li_0 ?_
          cases h
          exact rt_z K (Or.inl rfl) hP hD hS dX5_accepts_63
        · have h := if_f c67 h
          refine lv_iconst (v := 1) hx hb dX5_accepts_58 li_1 ?_
          refine lv_goto (tgt := 63) hx hb dX5_accepts_59 (by decide) ?_
          cases h
          exact rt_z K (Or.inr rfl) hP hD hS dX5_accepts_63
  · have h := if_t c1 h
    refine lv_aload_n hx hb dX5_accepts_7 rfl (lv_at hl 0 rfl) ?_
    refine lv_iload_n hx hb dX5_accepts_8 rfl (lv_at hl 1 rfl) ?_
    refine lv_bipush (v := 71) hx hb dX5_accepts_9 lb_71 ?_
    refine lv_icmp_ne (tgt := 18) hx hb dX5_accepts_11 (by decide) (fun c68 => ?_) (fun c68 => ?_)
    · have h := if_f c68 h
      refine lv_iconst (v := 0) hx hb dX5_accepts_18 li_0 ?_
      obtain ⟨s69, e70, h⟩ := nm_ex h
      refine va_put (D := G.1) (cl := vwCl) (tys := tysG G) (ci := 5) (v := .int (0 : Int32)) (ty := .boolean) (C := RX5) (T := TX5) (N := 5) hx hb hts iX5 tyX5 tyX5_ok nmX5 hown hG.1 hP hD hS 0 rfl rfl 4 (Nat.le_of_ble_eq_true rfl) (hts _ tw_1_140) (fun _ h9 => h9) rfl (by decide +kernel) rfl rfl (Nat.le_of_ble_eq_true rfl) dX5_accepts_19 (fun H locs hP hD hS => ?_)
      have hP : va_P G.1 vwCl (List.flatten [wE G ee ff s69, wF ff (bb 0) (dd 0), wB G bb σbb, wD G dd σdd]) H := by rw [e70]; exact hP
      have hD : va_D A (List.flatten [wE G ee ff s69, wF ff (bb 0) (dd 0), wB G bb σbb, wD G dd σdd]) := by rw [e70]; exact hD
      refine lv_aload_n hx hb dX5_accepts_22 rfl (lv_at hl 0 rfl) ?_
      refine va_get (D := G.1) (cl := vwCl) (tys := tysG G) (ci := 5) (v := .int (s69.1 4)) (C := RX5) (T := TX5) (N := 5) hx hb hts iX5 hown hG.1 hP 0 rfl rfl 4 (Nat.le_of_ble_eq_true rfl) (hts _ tw_1_140) (fun _ h9 => h9) rfl dX5_accepts_23 ?_
      obtain ⟨ck71, h⟩ := ck h
      cases h
      exact rt_z K (Classical.not_not.mp ck71) hP hD hS dX5_accepts_26
    · have h := if_t c68 h
      refine lv_iconst (v := 1) hx hb dX5_accepts_14 li_1 ?_
      refine lv_goto (tgt := 19) hx hb dX5_accepts_15 (by decide) ?_
      obtain ⟨s72, e73, h⟩ := nm_ex h
      refine va_put (D := G.1) (cl := vwCl) (tys := tysG G) (ci := 5) (v := .int (1 : Int32)) (ty := .boolean) (C := RX5) (T := TX5) (N := 5) hx hb hts iX5 tyX5 tyX5_ok nmX5 hown hG.1 hP hD hS 0 rfl rfl 4 (Nat.le_of_ble_eq_true rfl) (hts _ tw_1_140) (fun _ h9 => h9) rfl (by decide +kernel) rfl rfl (Nat.le_of_ble_eq_true rfl) dX5_accepts_19 (fun H locs hP hD hS => ?_)
      have hP : va_P G.1 vwCl (List.flatten [wE G ee ff s72, wF ff (bb 0) (dd 0), wB G bb σbb, wD G dd σdd]) H := by rw [e73]; exact hP
      have hD : va_D A (List.flatten [wE G ee ff s72, wF ff (bb 0) (dd 0), wB G bb σbb, wD G dd σdd]) := by rw [e73]; exact hD
      refine lv_aload_n hx hb dX5_accepts_22 rfl (lv_at hl 0 rfl) ?_
      refine va_get (D := G.1) (cl := vwCl) (tys := tysG G) (ci := 5) (v := .int (s72.1 4)) (C := RX5) (T := TX5) (N := 5) hx hb hts iX5 hown hG.1 hP 0 rfl rfl 4 (Nat.le_of_ble_eq_true rfl) (hts _ tw_1_140) (fun _ h9 => h9) rfl dX5_accepts_23 ?_
      obtain ⟨ck74, h⟩ := ck h
      cases h
      exact rt_z K (Classical.not_not.mp ck74) hP hD hS dX5_accepts_26
def gbX5_firstFault_24 (F : Nat) (σtt : ST) (rc : Int32 → ST → ST → ST → Option (Nat × Int32 × ST × ST × ST)) (v2 : Int32) (σee : ST) (σbb : ST) (σdd : ST) : Option (Nat × Int32 × ST × ST × ST) :=
  if (σtt.1 1) ≤ v2 then
    some ((57 : Nat), v2, σee, σbb, σdd)
  else
    if v2 < 0 ∨ 92 ≤ v2.toNatClampNeg then none else
    (fX5_accepts F σee σbb σdd ((σtt.2.1 0 v2.toNatClampNeg) &&& (255 : Int32))).bind fun r11 =>
    if r11.1 = 0 then
      some ((49 : Nat), v2, r11.2.1, r11.2.2.1, r11.2.2.2)
    else
      rc (v2 + 1) r11.2.1 r11.2.2.1 r11.2.2.2
def gX5_firstFault_24 (F : Nat) (σtt : ST) : Nat → Int32 → ST → ST → ST → Option (Nat × Int32 × ST × ST × ST)
  | 0, _, _, _, _ => none
  | n + 1, v2, σee, σbb, σdd => gbX5_firstFault_24 F σtt (gX5_firstFault_24 F σtt n) v2 σee σbb σdd
set_option maxHeartbeats 4000000 in
set_option maxRecDepth 100000 in
theorem kX5_firstFault_24 {p : Program} {l : Launch} {e : Env} {s : State} {m : MethodId} {args : Array Value} {below : List Frame} {meth : Method} {c : Code} {A : Nat → Prop} {Q : State → Prop} {G : GP} (K : Cx p s m meth c G cX5_firstFault RX5 3 (some .int) args A) (F : Nat) (ee : Nat → Nat) (ff : Nat) (bb : Nat → Nat) (dd : Nat → Nat) (tt : Nat → Nat) (σtt : ST) {z : Nat × Int32 × ST × ST × ST} (kk49 : z.1 = 49 → ∀ (H : Heap) (locs : List Loc) (ls : Array Slot), va_P G.1 vwCl (List.flatten [wE G ee ff z.2.2.1, wF ff (bb 0) (dd 0), wB G bb z.2.2.2.1, wD G dd z.2.2.2.2, wT G tt σtt]) H → va_D A (List.flatten [wE G ee ff z.2.2.1, wF ff (bb 0) (dd 0), wB G bb z.2.2.2.1, wD G dd z.2.2.2.2, wT G tt σtt]) → va_S A s.heap H locs → lv_has ls 3 [(0, .ref (ee 0)), (1, .ref (tt 0)), (2, .int z.2.1)] → W p l e (RM 6) s m args below meth c H locs 0 0 Q (F0 m 49 ls [])) (kk57 : z.1 = 57 → ∀ (H : Heap) (locs : List Loc) (ls : Array Slot), va_P G.1 vwCl (List.flatten [wE G ee ff z.2.2.1, wF ff (bb 0) (dd 0), wB G bb z.2.2.2.1, wD G dd z.2.2.2.2, wT G tt σtt]) H → va_D A (List.flatten [wE G ee ff z.2.2.1, wF ff (bb 0) (dd 0), wB G bb z.2.2.2.1, wD G dd z.2.2.2.2, wT G tt σtt]) → va_S A s.heap H locs → lv_has ls 3 [(0, .ref (ee 0)), (1, .ref (tt 0)), (2, .int z.2.1)] → W p l e (RM 6) s m args below meth c H locs 0 0 Q (F0 m 57 ls [])) :
    ∀ (n : Nat) (v2 : Int32) (σee : ST) (σbb : ST) (σdd : ST) (H : Heap) (locs : List Loc) (ls : Array Slot), va_P G.1 vwCl (List.flatten [wE G ee ff σee, wF ff (bb 0) (dd 0), wB G bb σbb, wD G dd σdd, wT G tt σtt]) H → va_D A (List.flatten [wE G ee ff σee, wF ff (bb 0) (dd 0), wB G bb σbb, wD G dd σdd, wT G tt σtt]) → va_S A s.heap H locs → lv_has ls 3 [(0, .ref (ee 0)), (1, .ref (tt 0)), (2, .int v2)] → gX5_firstFault_24 F σtt n v2 σee σbb σdd = some z → W p l e (RM 6) s m args below meth c H locs 0 0 Q (F0 m 24 ls []) := by
  obtain ⟨hx, hb, hr, hml, hts, hown, hlocks, hA, hG⟩ := id K
  intro n
  induction n with
  | zero =>
    intro v2 σee σbb σdd H locs ls hP hD hS hl h
    have h : none = some z := h
    cases h
  | succ n ih =>
    intro v2 σee σbb σdd H locs ls hP hD hS hl h
    have h : gbX5_firstFault_24 F σtt (gX5_firstFault_24 F σtt n) v2 σee σbb σdd = some z := h
    unfold gbX5_firstFault_24 at h
    refine lv_iload_n hx hb dX5_firstFault_24 rfl (lv_at hl 2 rfl) ?_
    refine lv_aload_n hx hb dX5_firstFault_25 rfl (lv_at hl 1 rfl) ?_
    refine va_get (D := G.1) (cl := vwCl) (tys := tysG G) (ci := 9) (v := .int (σtt.1 1)) (C := RX9) (T := TX9) (N := 2) hx hb hts iX9 hown hG.1 hP 18 rfl rfl 1 (Nat.le_of_ble_eq_true rfl) (hts _ tw_1_38) (fun _ h9 => h9) rfl dX5_firstFault_26 ?_
    refine lv_icmp_ge (tgt := 57) hx hb dX5_firstFault_29 (by decide) (fun c9 => ?_) (fun c9 => ?_)
    · have h := if_t c9 h
      cases h
      exact kk57 rfl _ _ _ hP hD hS (lv_sub hl [0, 1, 2] rfl)
    · have h := if_f c9 h
      refine lv_aload_n hx hb dX5_firstFault_32 rfl (lv_at hl 0 rfl) ?_
      refine lv_aload_n hx hb dX5_firstFault_33 rfl (lv_at hl 1 rfl) ?_
      refine va_get (D := G.1) (cl := vwCl) (tys := tysG G) (ci := 9) (v := .ref (tt 1)) (C := RX9) (T := TX9) (N := 2) hx hb hts iX9 hown hG.1 hP 18 rfl rfl 0 (Nat.le_of_ble_eq_true rfl) (hts _ tw_1_35) (fun _ h9 => h9) rfl dX5_firstFault_34 ?_
      refine lv_iload_n hx hb dX5_firstFault_37 rfl (lv_at hl 2 rfl) ?_
      obtain ⟨ck10, h⟩ := ck h
      refine va_bald hx hb hG.1 hP 19 3 rfl rfl ck10 dX5_firstFault_38 ?_
      refine lv_sipush (v := 255) hx hb dX5_firstFault_39 lh_255 ?_
      refine lv_iand hx hb dX5_firstFault_42 ?_
      obtain ⟨r11, hc12, h⟩ := bd_ex h
      refine sl_V (q0 := 0) (ci := 5) (C := RX5) K (mX5_accepts l G F ee ff bb dd σee σbb σdd ((σtt.2.1 0 v2.toNatClampNeg) &&& (255 : Int32)) hc12) tw_2_97 tw_1_3 tw_2_95 tw_2_96 tw_2_94 cdX5_accepts ⟨Nat.le_of_ble_eq_true rfl, Nat.le_of_ble_eq_true rfl⟩ hP hD hS [0, 1, 2, 3] rfl rfl rfl rfl rfl rfl rfl hl.1 (Nat.le_of_ble_eq_true rfl) ⟨Nat.zero_le _, Nat.zero_le _⟩ dX5_firstFault_43 (fun H locs hP hD hS => ?_)
      have hP : va_P G.1 vwCl (List.flatten [wE G ee ff r11.2.1, wF ff (bb 0) (dd 0), wB G bb r11.2.2.1, wD G dd r11.2.2.2, wT G tt σtt]) H := hP
      have hD : va_D A (List.flatten [wE G ee ff r11.2.1, wF ff (bb 0) (dd 0), wB G bb r11.2.2.1, wD G dd r11.2.2.2, wT G tt σtt]) := hD
      refine lv_if_ne (tgt := 51) hx hb dX5_firstFault_46 (by decide) (fun c13 => ?_) (fun c13 => ?_)
      · have h := if_f c13 h
        refine lv_iinc (v := v2 + 1) (lv' := [(2, .int (v2 + 1)), (0, .ref (ee 0)), (1, .ref (tt 0))]) hx hb dX5_firstFault_51 hl (k := 2) rfl (by rw [li_1]) (Nat.le_of_ble_eq_true rfl) rfl (fun ls hl => ?_)
        refine lv_goto (tgt := 24) hx hb dX5_firstFault_54 (by decide) ?_
        exact ih (v2 + 1) r11.2.1 r11.2.2.1 r11.2.2.2 _ _ _ hP hD hS (lv_sub hl [1, 2, 0] rfl) h
      · have h := if_t c13 h
        cases h
        exact kk49 rfl _ _ _ hP hD hS (lv_sub hl [0, 1, 2] rfl)
def fX5_firstFault (F : Nat) (σee : ST) (σbb : ST) (σdd : ST) (σtt : ST)  : Option (Int32 × ST × ST × ST) :=
  (fX2_clear F σbb σdd).bind fun r1 =>
  nm (sI σee 2 (0 : Int32)) fun (s3 : ST) =>
  nm (sI s3 3 (0 : Int32)) fun (s5 : ST) =>
  nm (sI s5 4 (0 : Int32)) fun (s7 : ST) =>
  (gX5_firstFault_24 F σtt F (0 : Int32) s7 r1.1 r1.2).bind fun z14 =>
    if z14.1 = 49 then
      some (z14.2.1, z14.2.2.1, z14.2.2.2.1, z14.2.2.2.2)
    else
      if (z14.2.2.1.1 4) = 0 then
        some (σtt.1 1, z14.2.2.1, z14.2.2.2.1, z14.2.2.2.2)
      else
        if (z14.2.2.1.1 3) = 0 then
          some ((-9 : Int32), z14.2.2.1, z14.2.2.2.1, z14.2.2.2.2)
        else
          some (σtt.1 1, z14.2.2.1, z14.2.2.2.1, z14.2.2.2.2)
theorem cdX5_firstFault : CallD yX5_firstFault 1 := by decide +kernel
set_option maxHeartbeats 4000000 in
set_option maxRecDepth 100000 in
theorem mX5_firstFault (l : Launch) (G : GP) (F : Nat) (ee : Nat → Nat) (ff : Nat) (bb : Nat → Nat) (dd : Nat → Nat) (tt : Nat → Nat) (σee : ST) (σbb : ST) (σdd : ST) (σtt : ST)  {r : Int32 × ST × ST × ST} (h : fX5_firstFault F σee σbb σdd σtt  = some r) : CC l G yX5_firstFault cX5_firstFault 3 (some .int) 6 [.ref (ee 0), .ref (tt 0)] (List.flatten [wE G ee ff σee, wF ff (bb 0) (dd 0), wB G bb σbb, wD G dd σdd, wT G tt σtt]) (List.flatten [wE G ee ff r.2.1, wF ff (bb 0) (dd 0), wB G bb r.2.2.1, wD G dd r.2.2.2, wT G tt σtt]) (some (.int r.1)) := by
  refine CC.of (by decide) (Nat.le_of_ble_eq_true rfl) ?_
  intro p e s m below meth c A K hP hD hS ls hl
  obtain ⟨hx, hb, hr, hml, hts, hown, hlocks, hA, hG⟩ := id K
  have hl : lv_has ls 3 [(0, .ref (ee 0)), (1, .ref (tt 0))] := hl
  unfold fX5_firstFault at h
  refine lv_aload_n hx hb dX5_firstFault_0 rfl (lv_at hl 0 rfl) ?_
  refine va_get (D := G.1) (cl := vwCl) (tys := tysG G) (ci := 5) (v := .ref ff) (C := RX5) (T := TX5) (N := 5) hx hb hts iX5 hown hG.1 hP 0 rfl rfl 0 (Nat.le_of_ble_eq_true rfl) (hts _ tw_1_135) (fun _ h9 => h9) rfl dX5_firstFault_1 ?_
  obtain ⟨r1, hc2, h⟩ := bd_ex h
  refine sl_V (q0 := 2) (ci := 2) (C := RX2) K (mX2_clear l G F ff bb dd σbb σdd hc2) tw_2_89 tw_1_4 tw_2_87 tw_2_88 tw_2_86 cdX2_clear ⟨Nat.le_of_ble_eq_true rfl, Nat.le_of_ble_eq_true rfl⟩ hP hD hS [1, 2, 3] rfl rfl rfl rfl rfl rfl rfl hl.1 (Nat.le_of_ble_eq_true rfl) ⟨Nat.zero_le _, Nat.zero_le _⟩ dX5_firstFault_4 (fun H locs hP hD hS => ?_)
  have hP : va_P G.1 vwCl (List.flatten [wE G ee ff σee, wF ff (bb 0) (dd 0), wB G bb r1.1, wD G dd r1.2, wT G tt σtt]) H := hP
  have hD : va_D A (List.flatten [wE G ee ff σee, wF ff (bb 0) (dd 0), wB G bb r1.1, wD G dd r1.2, wT G tt σtt]) := hD
  refine lv_aload_n hx hb dX5_firstFault_7 rfl (lv_at hl 0 rfl) ?_
  refine lv_iconst (v := 0) hx hb dX5_firstFault_8 li_0 ?_
  obtain ⟨s3, e4, h⟩ := nm_ex h
  refine va_put (D := G.1) (cl := vwCl) (tys := tysG G) (ci := 5) (v := .int (0 : Int32)) (ty := .int) (C := RX5) (T := TX5) (N := 5) hx hb hts iX5 tyX5 tyX5_ok nmX5 hown hG.1 hP hD hS 0 rfl rfl 2 (Nat.le_of_ble_eq_true rfl) (hts _ tw_1_138) (fun _ h9 => h9) rfl (by decide +kernel) rfl rfl (Nat.le_of_ble_eq_true rfl) dX5_firstFault_9 (fun H locs hP hD hS => ?_)
  have hP : va_P G.1 vwCl (List.flatten [wE G ee ff s3, wF ff (bb 0) (dd 0), wB G bb r1.1, wD G dd r1.2, wT G tt σtt]) H := by rw [e4]; exact hP
  have hD : va_D A (List.flatten [wE G ee ff s3, wF ff (bb 0) (dd 0), wB G bb r1.1, wD G dd r1.2, wT G tt σtt]) := by rw [e4]; exact hD
  refine lv_aload_n hx hb dX5_firstFault_12 rfl (lv_at hl 0 rfl) ?_
  refine lv_iconst (v := 0) hx hb dX5_firstFault_13 li_0 ?_
  obtain ⟨s5, e6, h⟩ := nm_ex h
  refine va_put (D := G.1) (cl := vwCl) (tys := tysG G) (ci := 5) (v := .int (0 : Int32)) (ty := .int) (C := RX5) (T := TX5) (N := 5) hx hb hts iX5 tyX5 tyX5_ok nmX5 hown hG.1 hP hD hS 0 rfl rfl 3 (Nat.le_of_ble_eq_true rfl) (hts _ tw_1_139) (fun _ h9 => h9) rfl (by decide +kernel) rfl rfl (Nat.le_of_ble_eq_true rfl) dX5_firstFault_14 (fun H locs hP hD hS => ?_)
  have hP : va_P G.1 vwCl (List.flatten [wE G ee ff s5, wF ff (bb 0) (dd 0), wB G bb r1.1, wD G dd r1.2, wT G tt σtt]) H := by rw [e6]; exact hP
  have hD : va_D A (List.flatten [wE G ee ff s5, wF ff (bb 0) (dd 0), wB G bb r1.1, wD G dd r1.2, wT G tt σtt]) := by rw [e6]; exact hD
  refine lv_aload_n hx hb dX5_firstFault_17 rfl (lv_at hl 0 rfl) ?_
  refine lv_iconst (v := 0) hx hb dX5_firstFault_18 li_0 ?_
  obtain ⟨s7, e8, h⟩ := nm_ex h
  refine va_put (D := G.1) (cl := vwCl) (tys := tysG G) (ci := 5) (v := .int (0 : Int32)) (ty := .boolean) (C := RX5) (T := TX5) (N := 5) hx hb hts iX5 tyX5 tyX5_ok nmX5 hown hG.1 hP hD hS 0 rfl rfl 4 (Nat.le_of_ble_eq_true rfl) (hts _ tw_1_140) (fun _ h9 => h9) rfl (by decide +kernel) rfl rfl (Nat.le_of_ble_eq_true rfl) dX5_firstFault_19 (fun H locs hP hD hS => ?_)
  have hP : va_P G.1 vwCl (List.flatten [wE G ee ff s7, wF ff (bb 0) (dd 0), wB G bb r1.1, wD G dd r1.2, wT G tt σtt]) H := by rw [e8]; exact hP
  have hD : va_D A (List.flatten [wE G ee ff s7, wF ff (bb 0) (dd 0), wB G bb r1.1, wD G dd r1.2, wT G tt σtt]) := by rw [e8]; exact hD
  refine lv_iconst (v := 0) hx hb dX5_firstFault_22 li_0 ?_
  refine lv_istore_n (lv' := [(2, .int (0 : Int32)), (0, .ref (ee 0)), (1, .ref (tt 0))]) hx hb dX5_firstFault_23 rfl hl (Nat.le_of_ble_eq_true rfl) rfl (fun ls hl => ?_)
  obtain ⟨z14, hz15, h⟩ := bd_ex h
  refine kX5_firstFault_24 K F ee ff bb dd tt σtt (fun ht H locs ls hP hD hS hl => ?_) (fun ht H locs ls hP hD hS hl => ?_) F (0 : Int32) s7 r1.1 r1.2 _ _ _ hP hD hS (lv_sub hl [1, 2, 0] rfl) hz15
  · have h := if_t ht h
    refine lv_iload_n hx hb dX5_firstFault_49 rfl (lv_at hl 2 rfl) ?_
    cases h
    exact rt_i K hP hD hS dX5_firstFault_50
  · have h := if_f (by rw [ht]; decide) h
    refine lv_aload_n hx hb dX5_firstFault_57 rfl (lv_at hl 0 rfl) ?_
    refine va_get (D := G.1) (cl := vwCl) (tys := tysG G) (ci := 5) (v := .int (z14.2.2.1.1 4)) (C := RX5) (T := TX5) (N := 5) hx hb hts iX5 hown hG.1 hP 0 rfl rfl 4 (Nat.le_of_ble_eq_true rfl) (hts _ tw_1_140) (fun _ h9 => h9) rfl dX5_firstFault_58 ?_
    refine lv_if_eq (tgt := 76) hx hb dX5_firstFault_61 (by decide) (fun c16 => ?_) (fun c16 => ?_)
    · have h := if_t c16 h
      refine lv_aload_n hx hb dX5_firstFault_76 rfl (lv_at hl 1 rfl) ?_
      refine va_get (D := G.1) (cl := vwCl) (tys := tysG G) (ci := 9) (v := .int (σtt.1 1)) (C := RX9) (T := TX9) (N := 2) hx hb hts iX9 hown hG.1 hP 18 rfl rfl 1 (Nat.le_of_ble_eq_true rfl) (hts _ tw_1_38) (fun _ h9 => h9) rfl dX5_firstFault_77 ?_
      cases h
      exact rt_i K hP hD hS dX5_firstFault_80
    · have h := if_f c16 h
      refine lv_aload_n hx hb dX5_firstFault_64 rfl (lv_at hl 0 rfl) ?_
      refine va_get (D := G.1) (cl := vwCl) (tys := tysG G) (ci := 5) (v := .int (z14.2.2.1.1 3)) (C := RX5) (T := TX5) (N := 5) hx hb hts iX5 hown hG.1 hP 0 rfl rfl 3 (Nat.le_of_ble_eq_true rfl) (hts _ tw_1_139) (fun _ h9 => h9) rfl dX5_firstFault_65 ?_
      refine lv_if_ne (tgt := 76) hx hb dX5_firstFault_68 (by decide) (fun c17 => ?_) (fun c17 => ?_)
      · have h := if_f c17 h
        refine lv_aload_n hx hb dX5_firstFault_76 rfl (lv_at hl 1 rfl) ?_
        refine va_get (D := G.1) (cl := vwCl) (tys := tysG G) (ci := 9) (v := .int (σtt.1 1)) (C := RX9) (T := TX9) (N := 2) hx hb hts iX9 hown hG.1 hP 18 rfl rfl 1 (Nat.le_of_ble_eq_true rfl) (hts _ tw_1_38) (fun _ h9 => h9) rfl dX5_firstFault_77 ?_
        cases h
        exact rt_i K hP hD hS dX5_firstFault_80
      · have h := if_t c17 h
        refine lv_bipush (v := -9) hx hb dX5_firstFault_71 lb_m9 ?_
        refine lv_goto (tgt := 80) hx hb dX5_firstFault_73 (by decide) ?_
        cases h
        exact rt_i K hP hD hS dX5_firstFault_80
