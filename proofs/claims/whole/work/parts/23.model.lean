def fX11_isBody (F : Nat) (σxx : ST) (x1 : Int32) : Option (Int32) :=
  (fX11_in F x1.toInt64 (0 : Int64) (((σxx.1 11) - (1 : Int32)).toInt64)).bind fun r1 =>
  if ¬ (r1 = 0 ∨ r1 = 1) then none else
  some r1
theorem cdX11_isBody : CallD yX11_isBody 1 := by decide +kernel
set_option maxHeartbeats 4000000 in
set_option maxRecDepth 100000 in
theorem mX11_isBody (l : Launch) (G : GP) (F : Nat) (xx : Nat → Nat) (σxx : ST) (x1 : Int32) {r : Int32} (h : fX11_isBody F σxx x1 = some r) : CC l G yX11_isBody cX11_isBody 2 (some .boolean) 2 [.ref (xx 0), .int x1] (List.flatten [wX G xx σxx]) (List.flatten [wX G xx σxx]) (some (.int r)) := by
  refine CC.of (by decide) (Nat.le_of_ble_eq_true rfl) ?_
  intro p e s m below meth c A K hP hD hS ls hl
  obtain ⟨hx, hb, hr, hml, hts, hown, hlocks, hA, hG⟩ := id K
  have hl : lv_has ls 2 [(0, .ref (xx 0)), (1, .int x1)] := hl
  unfold fX11_isBody at h
  refine lv_iload_n hx hb dX11_isBody_0 rfl (lv_at hl 1 rfl) ?_
  refine lv_i2l (v := x1.toInt64) hx hb dX11_isBody_1 rfl ?_
  refine lv_lconst (v := 0) hx hb dX11_isBody_2 ll_0 ?_
  refine lv_aload_n hx hb dX11_isBody_3 rfl (lv_at hl 0 rfl) ?_
  refine va_get (D := G.1) (cl := vwCl) (tys := tysG G) (ci := 11) (v := .int (σxx.1 11)) (C := RX11) (T := TX11) (N := 37) hx hb hts iX11 hown hG.1 hP 0 rfl rfl 11 (Nat.le_of_ble_eq_true rfl) (hts _ tw_4_108) (fun _ h9 => h9) rfl dX11_isBody_4 ?_
  refine lv_iconst (v := 1) hx hb dX11_isBody_7 li_1 ?_
  refine lv_isub hx hb dX11_isBody_8 ?_
  refine lv_i2l (v := ((σxx.1 11) - (1 : Int32)).toInt64) hx hb dX11_isBody_9 rfl ?_
  obtain ⟨r1, hc2, h⟩ := bd_ex h
  refine sl_S K (mX11_in l G F x1.toInt64 (0 : Int64) (((σxx.1 11) - (1 : Int32)).toInt64) hc2) tw_4_217 tw_1_12 tw_4_216 tw_4_215 cdX11_in ⟨Nat.le_of_ble_eq_true rfl, Nat.le_of_ble_eq_true rfl⟩ hP hD hS [] rfl rfl rfl rfl hl.1 (Nat.le_of_ble_eq_true rfl) ⟨Nat.zero_le _, Nat.zero_le _⟩ dX11_isBody_10 (fun H locs hP hD hS => ?_)
  have hP : va_P G.1 vwCl (List.flatten [wX G xx σxx]) H := hP
  have hD : va_D A (List.flatten [wX G xx σxx]) := hD
  obtain ⟨ck3, h⟩ := ck h
  cases h
  exact rt_z K (Classical.not_not.mp ck3) hP hD hS dX11_isBody_13
def fX11_isHill (F : Nat) (σxx : ST) (x1 : Int32) : Option (Int32) :=
  (fX11_in F x1.toInt64 (0 : Int64) (((σxx.1 12) - (1 : Int32)).toInt64)).bind fun r1 =>
  if ¬ (r1 = 0 ∨ r1 = 1) then none else
  some r1
theorem cdX11_isHill : CallD yX11_isHill 1 := by decide +kernel
set_option maxHeartbeats 4000000 in
set_option maxRecDepth 100000 in
theorem mX11_isHill (l : Launch) (G : GP) (F : Nat) (xx : Nat → Nat) (σxx : ST) (x1 : Int32) {r : Int32} (h : fX11_isHill F σxx x1 = some r) : CC l G yX11_isHill cX11_isHill 2 (some .boolean) 2 [.ref (xx 0), .int x1] (List.flatten [wX G xx σxx]) (List.flatten [wX G xx σxx]) (some (.int r)) := by
  refine CC.of (by decide) (Nat.le_of_ble_eq_true rfl) ?_
  intro p e s m below meth c A K hP hD hS ls hl
  obtain ⟨hx, hb, hr, hml, hts, hown, hlocks, hA, hG⟩ := id K
  have hl : lv_has ls 2 [(0, .ref (xx 0)), (1, .int x1)] := hl
  unfold fX11_isHill at h
  refine lv_iload_n hx hb dX11_isHill_0 rfl (lv_at hl 1 rfl) ?_
  refine lv_i2l (v := x1.toInt64) hx hb dX11_isHill_1 rfl ?_
  refine lv_lconst (v := 0) hx hb dX11_isHill_2 ll_0 ?_
  refine lv_aload_n hx hb dX11_isHill_3 rfl (lv_at hl 0 rfl) ?_
  refine va_get (D := G.1) (cl := vwCl) (tys := tysG G) (ci := 11) (v := .int (σxx.1 12)) (C := RX11) (T := TX11) (N := 37) hx hb hts iX11 hown hG.1 hP 0 rfl rfl 12 (Nat.le_of_ble_eq_true rfl) (hts _ tw_4_109) (fun _ h9 => h9) rfl dX11_isHill_4 ?_
  refine lv_iconst (v := 1) hx hb dX11_isHill_7 li_1 ?_
  refine lv_isub hx hb dX11_isHill_8 ?_
  refine lv_i2l (v := ((σxx.1 12) - (1 : Int32)).toInt64) hx hb dX11_isHill_9 rfl ?_
  obtain ⟨r1, hc2, h⟩ := bd_ex h
  refine sl_S K (mX11_in l G F x1.toInt64 (0 : Int64) (((σxx.1 12) - (1 : Int32)).toInt64) hc2) tw_4_217 tw_1_12 tw_4_216 tw_4_215 cdX11_in ⟨Nat.le_of_ble_eq_true rfl, Nat.le_of_ble_eq_true rfl⟩ hP hD hS [] rfl rfl rfl rfl hl.1 (Nat.le_of_ble_eq_true rfl) ⟨Nat.zero_le _, Nat.zero_le _⟩ dX11_isHill_10 (fun H locs hP hD hS => ?_)
  have hP : va_P G.1 vwCl (List.flatten [wX G xx σxx]) H := hP
  have hD : va_D A (List.flatten [wX G xx σxx]) := hD
  obtain ⟨ck3, h⟩ := ck h
  cases h
  exact rt_z K (Classical.not_not.mp ck3) hP hD hS dX11_isHill_13
def fX11_body (F : Nat) (σxx : ST) (x1 : Int32) (x2 : Int32) : Option (Int32) :=
  (fX11_isBody F σxx x1).bind fun r1 =>
  if r1 = 0 then
    some (-1 : Int32)
  else
    if x2 = 0 then
      if (((3 : Int32) * x1) + x2) < 0 ∨ 24 ≤ (((3 : Int32) * x1) + x2).toNatClampNeg then none else
      some (σxx.2.1 7 (((3 : Int32) * x1) + x2).toNatClampNeg)
    else
    if x2 = 1 then
      if (((3 : Int32) * x1) + x2) < 0 ∨ 24 ≤ (((3 : Int32) * x1) + x2).toNatClampNeg then none else
      some (σxx.2.1 7 (((3 : Int32) * x1) + x2).toNatClampNeg)
    else
    if x2 = 2 then
      if (((3 : Int32) * x1) + x2) < 0 ∨ 24 ≤ (((3 : Int32) * x1) + x2).toNatClampNeg then none else
      some (σxx.2.1 7 (((3 : Int32) * x1) + x2).toNatClampNeg)
    else
    if x2 = 3 then
      if ((3 : Int32) * x1) < 0 ∨ 24 ≤ ((3 : Int32) * x1).toNatClampNeg then none else
      (fX11_highOf F (σxx.2.1 7 ((3 : Int32) * x1).toNatClampNeg)).bind fun r12 =>
      some r12
    else
    if x2 = 4 then
      if ((3 : Int32) * x1) < 0 ∨ 24 ≤ ((3 : Int32) * x1).toNatClampNeg then none else
      (fX11_manyOf F (σxx.2.1 7 ((3 : Int32) * x1).toNatClampNeg)).bind fun r16 =>
      some r16
    else
      some (-2 : Int32)
theorem cdX11_body : CallD yX11_body 2 := by decide +kernel
set_option maxHeartbeats 4000000 in
set_option maxRecDepth 100000 in
theorem mX11_body (l : Launch) (G : GP) (F : Nat) (xx : Nat → Nat) (σxx : ST) (x1 : Int32) (x2 : Int32) {r : Int32} (h : fX11_body F σxx x1 x2 = some r) : CC l G yX11_body cX11_body 3 (some .int) 3 [.ref (xx 0), .int x1, .int x2] (List.flatten [wX G xx σxx]) (List.flatten [wX G xx σxx]) (some (.int r)) := by
  refine CC.of (by decide) (Nat.le_of_ble_eq_true rfl) ?_
  intro p e s m below meth c A K hP hD hS ls hl
  obtain ⟨hx, hb, hr, hml, hts, hown, hlocks, hA, hG⟩ := id K
  have hl : lv_has ls 3 [(0, .ref (xx 0)), (1, .int x1), (2, .int x2)] := hl
  unfold fX11_body at h
  refine lv_aload_n hx hb dX11_body_0 rfl (lv_at hl 0 rfl) ?_
  refine lv_iload_n hx hb dX11_body_1 rfl (lv_at hl 1 rfl) ?_
  obtain ⟨r1, hc2, h⟩ := bd_ex h
  refine sl_V (q0 := 0) (ci := 11) (C := RX11) K (mX11_isBody l G F xx σxx x1 hc2) tw_5_37 tw_1_12 tw_5_36 tw_0_8 tw_5_34 cdX11_isBody ⟨Nat.le_of_ble_eq_true rfl, Nat.le_of_ble_eq_true rfl⟩ hP hD hS [0] rfl rfl rfl rfl rfl rfl rfl hl.1 (Nat.le_of_ble_eq_true rfl) ⟨Nat.zero_le _, Nat.zero_le _⟩ dX11_body_2 (fun H locs hP hD hS => ?_)
  have hP : va_P G.1 vwCl (List.flatten [wX G xx σxx]) H := hP
  have hD : va_D A (List.flatten [wX G xx σxx]) := hD
  refine lv_if_ne (tgt := 10) hx hb dX11_body_5 (by decide) (fun c3 => ?_) (fun c3 => ?_)
  · have h := if_f c3 h
    refine lv_iload_n hx hb dX11_body_10 rfl (lv_at hl 2 rfl) ?_
    by_cases c4 : x2 = 0
    · have h := if_t c4 h
      refine lv_tableIn (off := 33) (tgt := 44) hx hb dX11_body_11 (by rw [c4]; decide) (by rw [c4]; decide) (by rw [c4] <;> rfl) (by decide) ?_
      refine lv_aload_n hx hb dX11_body_44 rfl (lv_at hl 0 rfl) ?_
      refine va_get (D := G.1) (cl := vwCl) (tys := tysG G) (ci := 11) (v := .ref (xx 8)) (C := RX11) (T := TX11) (N := 37) hx hb hts iX11 hown hG.1 hP 0 rfl rfl 7 (Nat.le_of_ble_eq_true rfl) (hts _ tw_4_104) (fun _ h9 => h9) rfl dX11_body_45 ?_
      refine lv_iconst (v := 3) hx hb dX11_body_48 li_3 ?_
      refine lv_iload_n hx hb dX11_body_49 rfl (lv_at hl 1 rfl) ?_
      refine lv_imul hx hb dX11_body_50 ?_
      refine lv_iload_n hx hb dX11_body_51 rfl (lv_at hl 2 rfl) ?_
      refine lv_iadd hx hb dX11_body_52 ?_
      obtain ⟨ck5, h⟩ := ck h
      refine va_iald hx hb hG.1 hP 5 0 rfl rfl ck5 dX11_body_53 ?_
      cases h
      exact rt_i K hP hD hS dX11_body_54
    have h := if_f c4 h
    by_cases c6 : x2 = 1
    · have h := if_t c6 h
      refine lv_tableIn (off := 33) (tgt := 44) hx hb dX11_body_11 (by rw [c6]; decide) (by rw [c6]; decide) (by rw [c6] <;> rfl) (by decide) ?_
      refine lv_aload_n hx hb dX11_body_44 rfl (lv_at hl 0 rfl) ?_
      refine va_get (D := G.1) (cl := vwCl) (tys := tysG G) (ci := 11) (v := .ref (xx 8)) (C := RX11) (T := TX11) (N := 37) hx hb hts iX11 hown hG.1 hP 0 rfl rfl 7 (Nat.le_of_ble_eq_true rfl) (hts _ tw_4_104) (fun _ h9 => h9) rfl dX11_body_45 ?_
      refine lv_iconst (v := 3) hx hb dX11_body_48 li_3 ?_
      refine lv_iload_n hx hb dX11_body_49 rfl (lv_at hl 1 rfl) ?_
      refine lv_imul hx hb dX11_body_50 ?_
      refine lv_iload_n hx hb dX11_body_51 rfl (lv_at hl 2 rfl) ?_
      refine lv_iadd hx hb dX11_body_52 ?_
      obtain ⟨ck7, h⟩ := ck h
      refine va_iald hx hb hG.1 hP 5 0 rfl rfl ck7 dX11_body_53 ?_
      cases h
      exact rt_i K hP hD hS dX11_body_54
    have h := if_f c6 h
    by_cases c8 : x2 = 2
    · have h := if_t c8 h
      refine lv_tableIn (off := 33) (tgt := 44) hx hb dX11_body_11 (by rw [c8]; decide) (by rw [c8]; decide) (by rw [c8] <;> rfl) (by decide) ?_
      refine lv_aload_n hx hb dX11_body_44 rfl (lv_at hl 0 rfl) ?_
      refine va_get (D := G.1) (cl := vwCl) (tys := tysG G) (ci := 11) (v := .ref (xx 8)) (C := RX11) (T := TX11) (N := 37) hx hb hts iX11 hown hG.1 hP 0 rfl rfl 7 (Nat.le_of_ble_eq_true rfl) (hts _ tw_4_104) (fun _ h9 => h9) rfl dX11_body_45 ?_
      refine lv_iconst (v := 3) hx hb dX11_body_48 li_3 ?_
      refine lv_iload_n hx hb dX11_body_49 rfl (lv_at hl 1 rfl) ?_
      refine lv_imul hx hb dX11_body_50 ?_
      refine lv_iload_n hx hb dX11_body_51 rfl (lv_at hl 2 rfl) ?_
      refine lv_iadd hx hb dX11_body_52 ?_
      obtain ⟨ck9, h⟩ := ck h
      refine va_iald hx hb hG.1 hP 5 0 rfl rfl ck9 dX11_body_53 ?_
      cases h
      exact rt_i K hP hD hS dX11_body_54
    have h := if_f c8 h
    by_cases c10 : x2 = 3
    · have h := if_t c10 h
      refine lv_tableIn (off := 44) (tgt := 55) hx hb dX11_body_11 (by rw [c10]; decide) (by rw [c10]; decide) (by rw [c10] <;> rfl) (by decide) ?_
      refine lv_aload_n hx hb dX11_body_55 rfl (lv_at hl 0 rfl) ?_
      refine va_get (D := G.1) (cl := vwCl) (tys := tysG G) (ci := 11) (v := .ref (xx 8)) (C := RX11) (T := TX11) (N := 37) hx hb hts iX11 hown hG.1 hP 0 rfl rfl 7 (Nat.le_of_ble_eq_true rfl) (hts _ tw_4_104) (fun _ h9 => h9) rfl dX11_body_56 ?_
      refine lv_iconst (v := 3) hx hb dX11_body_59 li_3 ?_
      refine lv_iload_n hx hb dX11_body_60 rfl (lv_at hl 1 rfl) ?_
      refine lv_imul hx hb dX11_body_61 ?_
      obtain ⟨ck11, h⟩ := ck h
      refine va_iald hx hb hG.1 hP 5 0 rfl rfl ck11 dX11_body_62 ?_
      obtain ⟨r12, hc13, h⟩ := bd_ex h
      refine sl_S K (mX11_highOf l G F (σxx.2.1 7 ((3 : Int32) * x1).toNatClampNeg) hc13) tw_5_40 tw_1_12 tw_5_39 tw_5_38 cdX11_highOf ⟨Nat.le_of_ble_eq_true rfl, Nat.le_of_ble_eq_true rfl⟩ hP hD hS [] rfl rfl rfl rfl hl.1 (Nat.le_of_ble_eq_true rfl) ⟨Nat.zero_le _, Nat.zero_le _⟩ dX11_body_63 (fun H locs hP hD hS => ?_)
      have hP : va_P G.1 vwCl (List.flatten [wX G xx σxx]) H := hP
      have hD : va_D A (List.flatten [wX G xx σxx]) := hD
      cases h
      exact rt_i K hP hD hS dX11_body_66
    have h := if_f c10 h
    by_cases c14 : x2 = 4
    · have h := if_t c14 h
      refine lv_tableIn (off := 56) (tgt := 67) hx hb dX11_body_11 (by rw [c14]; decide) (by rw [c14]; decide) (by rw [c14] <;> rfl) (by decide) ?_
      refine lv_aload_n hx hb dX11_body_67 rfl (lv_at hl 0 rfl) ?_
      refine va_get (D := G.1) (cl := vwCl) (tys := tysG G) (ci := 11) (v := .ref (xx 8)) (C := RX11) (T := TX11) (N := 37) hx hb hts iX11 hown hG.1 hP 0 rfl rfl 7 (Nat.le_of_ble_eq_true rfl) (hts _ tw_4_104) (fun _ h9 => h9) rfl dX11_body_68 ?_
      refine lv_iconst (v := 3) hx hb dX11_body_71 li_3 ?_
      refine lv_iload_n hx hb dX11_body_72 rfl (lv_at hl 1 rfl) ?_
      refine lv_imul hx hb dX11_body_73 ?_
      obtain ⟨ck15, h⟩ := ck h
      refine va_iald hx hb hG.1 hP 5 0 rfl rfl ck15 dX11_body_74 ?_
      obtain ⟨r16, hc17, h⟩ := bd_ex h
      refine sl_S K (mX11_manyOf l G F (σxx.2.1 7 ((3 : Int32) * x1).toNatClampNeg) hc17) tw_5_43 tw_1_12 tw_5_42 tw_5_41 cdX11_manyOf ⟨Nat.le_of_ble_eq_true rfl, Nat.le_of_ble_eq_true rfl⟩ hP hD hS [] rfl rfl rfl rfl hl.1 (Nat.le_of_ble_eq_true rfl) ⟨Nat.zero_le _, Nat.zero_le _⟩ dX11_body_75 (fun H locs hP hD hS => ?_)
      have hP : va_P G.1 vwCl (List.flatten [wX G xx σxx]) H := hP
      have hD : va_D A (List.flatten [wX G xx σxx]) := hD
      cases h
      exact rt_i K hP hD hS dX11_body_78
    have h := if_f c14 h
    refine lv_tableOut (tgt := 79) hx hb dX11_body_11 (by have n0 := lv_neT c4 (a := 0) rfl; have n1 := lv_neT c6 (a := 1) rfl; have n2 := lv_neT c8 (a := 2) rfl; have n3 := lv_neT c10 (a := 3) rfl; have n4 := lv_neT c14 (a := 4) rfl; omega) (by decide) ?_
    refine lv_bipush (v := -2) hx hb dX11_body_79 lb_m2 ?_
    cases h
    exact rt_i K hP hD hS dX11_body_81
  · have h := if_t c3 h
    refine lv_iconst (v := -1) hx hb dX11_body_8 li_m1 ?_
    cases h
    exact rt_i K hP hD hS dX11_body_9
def fX11_hill (F : Nat) (σxx : ST) (x1 : Int32) (x2 : Int32) : Option (Int32) :=
  (fX11_isHill F σxx x1).bind fun r1 =>
  if r1 = 0 then
    some (-1 : Int32)
  else
    (fX11_in F x2.toInt64 (0 : Int64) (3 : Int64)).bind fun r4 =>
    if r4 = 0 then
      some (-2 : Int32)
    else
      if (((4 : Int32) * x1) + x2) < 0 ∨ 12 ≤ (((4 : Int32) * x1) + x2).toNatClampNeg then none else
      some (σxx.2.1 8 (((4 : Int32) * x1) + x2).toNatClampNeg)
theorem cdX11_hill : CallD yX11_hill 2 := by decide +kernel
set_option maxHeartbeats 4000000 in
set_option maxRecDepth 100000 in
theorem mX11_hill (l : Launch) (G : GP) (F : Nat) (xx : Nat → Nat) (σxx : ST) (x1 : Int32) (x2 : Int32) {r : Int32} (h : fX11_hill F σxx x1 x2 = some r) : CC l G yX11_hill cX11_hill 3 (some .int) 3 [.ref (xx 0), .int x1, .int x2] (List.flatten [wX G xx σxx]) (List.flatten [wX G xx σxx]) (some (.int r)) := by
  refine CC.of (by decide) (Nat.le_of_ble_eq_true rfl) ?_
  intro p e s m below meth c A K hP hD hS ls hl
  obtain ⟨hx, hb, hr, hml, hts, hown, hlocks, hA, hG⟩ := id K
  have hl : lv_has ls 3 [(0, .ref (xx 0)), (1, .int x1), (2, .int x2)] := hl
  unfold fX11_hill at h
  refine lv_aload_n hx hb dX11_hill_0 rfl (lv_at hl 0 rfl) ?_
  refine lv_iload_n hx hb dX11_hill_1 rfl (lv_at hl 1 rfl) ?_
  obtain ⟨r1, hc2, h⟩ := bd_ex h
  refine sl_V (q0 := 0) (ci := 11) (C := RX11) K (mX11_isHill l G F xx σxx x1 hc2) tw_5_51 tw_1_12 tw_5_50 tw_0_9 tw_5_48 cdX11_isHill ⟨Nat.le_of_ble_eq_true rfl, Nat.le_of_ble_eq_true rfl⟩ hP hD hS [0] rfl rfl rfl rfl rfl rfl rfl hl.1 (Nat.le_of_ble_eq_true rfl) ⟨Nat.zero_le _, Nat.zero_le _⟩ dX11_hill_2 (fun H locs hP hD hS => ?_)
  have hP : va_P G.1 vwCl (List.flatten [wX G xx σxx]) H := hP
  have hD : va_D A (List.flatten [wX G xx σxx]) := hD
  refine lv_if_ne (tgt := 10) hx hb dX11_hill_5 (by decide) (fun c3 => ?_) (fun c3 => ?_)
  · have h := if_f c3 h
    refine lv_iload_n hx hb dX11_hill_10 rfl (lv_at hl 2 rfl) ?_
    refine lv_i2l (v := x2.toInt64) hx hb dX11_hill_11 rfl ?_
    refine lv_lconst (v := 0) hx hb dX11_hill_12 ll_0 ?_
    refine lv_ldc2 (v := 3) hx hb hown (hts _ tw_5_52) dX11_hill_13 ?_
    obtain ⟨r4, hc5, h⟩ := bd_ex h
    refine sl_S K (mX11_in l G F x2.toInt64 (0 : Int64) (3 : Int64) hc5) tw_4_217 tw_1_12 tw_4_216 tw_4_215 cdX11_in ⟨Nat.le_of_ble_eq_true rfl, Nat.le_of_ble_eq_true rfl⟩ hP hD hS [] rfl rfl rfl rfl hl.1 (Nat.le_of_ble_eq_true rfl) ⟨Nat.zero_le _, Nat.zero_le _⟩ dX11_hill_16 (fun H locs hP hD hS => ?_)
    have hP : va_P G.1 vwCl (List.flatten [wX G xx σxx]) H := hP
    have hD : va_D A (List.flatten [wX G xx σxx]) := hD
    refine lv_if_eq (tgt := 35) hx hb dX11_hill_19 (by decide) (fun c6 => ?_) (fun c6 => ?_)
    · have h := if_t c6 h
      refine lv_bipush (v := -2) hx hb dX11_hill_35 lb_m2 ?_
      cases h
      exact rt_i K hP hD hS dX11_hill_37
    · have h := if_f c6 h
      refine lv_aload_n hx hb dX11_hill_22 rfl (lv_at hl 0 rfl) ?_
      refine va_get (D := G.1) (cl := vwCl) (tys := tysG G) (ci := 11) (v := .ref (xx 9)) (C := RX11) (T := TX11) (N := 37) hx hb hts iX11 hown hG.1 hP 0 rfl rfl 8 (Nat.le_of_ble_eq_true rfl) (hts _ tw_4_105) (fun _ h9 => h9) rfl dX11_hill_23 ?_
      refine lv_iconst (v := 4) hx hb dX11_hill_26 li_4 ?_
      refine lv_iload_n hx hb dX11_hill_27 rfl (lv_at hl 1 rfl) ?_
      refine lv_imul hx hb dX11_hill_28 ?_
      refine lv_iload_n hx hb dX11_hill_29 rfl (lv_at hl 2 rfl) ?_
      refine lv_iadd hx hb dX11_hill_30 ?_
      obtain ⟨ck7, h⟩ := ck h
      refine va_iald hx hb hG.1 hP 6 0 rfl rfl ck7 dX11_hill_31 ?_
      refine lv_goto (tgt := 37) hx hb dX11_hill_32 (by decide) ?_
      cases h
      exact rt_i K hP hD hS dX11_hill_37
  · have h := if_t c3 h
    refine lv_iconst (v := -1) hx hb dX11_hill_8 li_m1 ?_
    cases h
    exact rt_i K hP hD hS dX11_hill_9
def gbX11_keepAct_2 (F : Nat)  (rc : Int32 → ST → Option (Int32 × ST)) (v1 : Int32) (σxx : ST) : Option (Int32 × ST) :=
  if (24 : Int32) ≤ v1 then
    some (v1, σxx)
  else
    if v1 < 0 ∨ 24 ≤ v1.toNatClampNeg then none else
    if (((25 : Int32) * (σxx.1 20)) + v1) < 0 ∨ 400 ≤ (((25 : Int32) * (σxx.1 20)) + v1).toNatClampNeg then none else
    nm (sA σxx 21 (((25 : Int32) * (σxx.1 20)) + v1).toNatClampNeg (σxx.2.1 7 v1.toNatClampNeg)) fun (s4 : ST) =>
    rc (v1 + 1) s4
def gX11_keepAct_2 (F : Nat)  : Nat → Int32 → ST → Option (Int32 × ST)
  | 0, _, _ => none
  | n + 1, v1, σxx => gbX11_keepAct_2 F  (gX11_keepAct_2 F  n) v1 σxx
set_option maxHeartbeats 4000000 in
set_option maxRecDepth 100000 in
theorem kX11_keepAct_2 {p : Program} {l : Launch} {e : Env} {s : State} {m : MethodId} {args : Array Value} {below : List Frame} {meth : Method} {c : Code} {A : Nat → Prop} {Q : State → Prop} {G : GP} (K : Cx p s m meth c G cX11_keepAct RX11 2 none args A) (F : Nat) (xx : Nat → Nat)  {z : Int32 × ST} (kk : ∀ (H : Heap) (locs : List Loc) (ls : Array Slot), va_P G.1 vwCl (List.flatten [wX G xx z.2]) H → va_D A (List.flatten [wX G xx z.2]) → va_S A s.heap H locs → lv_has ls 2 [(0, .ref (xx 0)), (1, .int z.1)] → W p l e (RM 1) s m args below meth c H locs 0 0 Q (F0 m 34 ls [])) :
    ∀ (n : Nat) (v1 : Int32) (σxx : ST) (H : Heap) (locs : List Loc) (ls : Array Slot), va_P G.1 vwCl (List.flatten [wX G xx σxx]) H → va_D A (List.flatten [wX G xx σxx]) → va_S A s.heap H locs → lv_has ls 2 [(0, .ref (xx 0)), (1, .int v1)] → gX11_keepAct_2 F  n v1 σxx = some z → W p l e (RM 1) s m args below meth c H locs 0 0 Q (F0 m 2 ls []) := by
  obtain ⟨hx, hb, hr, hml, hts, hown, hlocks, hA, hG⟩ := id K
  intro n
  induction n with
  | zero =>
    intro v1 σxx H locs ls hP hD hS hl h
    have h : none = some z := h
    cases h
  | succ n ih =>
    intro v1 σxx H locs ls hP hD hS hl h
    have h : gbX11_keepAct_2 F  (gX11_keepAct_2 F  n) v1 σxx = some z := h
    unfold gbX11_keepAct_2 at h
    refine lv_iload_n hx hb dX11_keepAct_2 rfl (lv_at hl 1 rfl) ?_
    refine lv_bipush (v := 24) hx hb dX11_keepAct_3 lb_24 ?_
    refine lv_icmp_ge (tgt := 34) hx hb dX11_keepAct_5 (by decide) (fun c1 => ?_) (fun c1 => ?_)
    · have h := if_t c1 h
      cases h
      exact kk _ _ _ hP hD hS (lv_sub hl [0, 1] rfl)
    · have h := if_f c1 h
      refine lv_aload_n hx hb dX11_keepAct_8 rfl (lv_at hl 0 rfl) ?_
      refine va_get (D := G.1) (cl := vwCl) (tys := tysG G) (ci := 11) (v := .ref (xx 22)) (C := RX11) (T := TX11) (N := 37) hx hb hts iX11 hown hG.1 hP 0 rfl rfl 21 (Nat.le_of_ble_eq_true rfl) (hts _ tw_4_118) (fun _ h9 => h9) rfl dX11_keepAct_9 ?_
      refine lv_bipush (v := 25) hx hb dX11_keepAct_12 lb_25 ?_
      refine lv_aload_n hx hb dX11_keepAct_14 rfl (lv_at hl 0 rfl) ?_
      refine va_get (D := G.1) (cl := vwCl) (tys := tysG G) (ci := 11) (v := .int (σxx.1 20)) (C := RX11) (T := TX11) (N := 37) hx hb hts iX11 hown hG.1 hP 0 rfl rfl 20 (Nat.le_of_ble_eq_true rfl) (hts _ tw_4_117) (fun _ h9 => h9) rfl dX11_keepAct_15 ?_
      refine lv_imul hx hb dX11_keepAct_18 ?_
      refine lv_iload_n hx hb dX11_keepAct_19 rfl (lv_at hl 1 rfl) ?_
      refine lv_iadd hx hb dX11_keepAct_20 ?_
      refine lv_aload_n hx hb dX11_keepAct_21 rfl (lv_at hl 0 rfl) ?_
      refine va_get (D := G.1) (cl := vwCl) (tys := tysG G) (ci := 11) (v := .ref (xx 8)) (C := RX11) (T := TX11) (N := 37) hx hb hts iX11 hown hG.1 hP 0 rfl rfl 7 (Nat.le_of_ble_eq_true rfl) (hts _ tw_4_104) (fun _ h9 => h9) rfl dX11_keepAct_22 ?_
      refine lv_iload_n hx hb dX11_keepAct_25 rfl (lv_at hl 1 rfl) ?_
      obtain ⟨ck2, h⟩ := ck h
      refine va_iald hx hb hG.1 hP 5 0 rfl rfl ck2 dX11_keepAct_26 ?_
      obtain ⟨ck3, h⟩ := ck h
      obtain ⟨s4, e5, h⟩ := nm_ex h
      refine va_iast hx hb hG.1 hP hD hS 10 0 rfl rfl ck3 dX11_keepAct_27 (fun H locs hP hD hS => ?_)
      have hP : va_P G.1 vwCl (List.flatten [wX G xx s4]) H := by rw [e5]; exact hP
      have hD : va_D A (List.flatten [wX G xx s4]) := by rw [e5]; exact hD
      refine lv_iinc (v := v1 + 1) (lv' := [(1, .int (v1 + 1)), (0, .ref (xx 0))]) hx hb dX11_keepAct_28 hl (k := 1) rfl (by rw [li_1]) (Nat.le_of_ble_eq_true rfl) rfl (fun ls hl => ?_)
      refine lv_goto (tgt := 2) hx hb dX11_keepAct_31 (by decide) ?_
      exact ih (v1 + 1) s4 _ _ _ hP hD hS (lv_sub hl [1, 0] rfl) h
def fX11_keepAct (F : Nat) (σxx : ST)  : Option (ST) :=
  (gX11_keepAct_2 F  F (0 : Int32) σxx).bind fun z6 =>
    if (((25 : Int32) * (z6.2.1 20)) + (24 : Int32)) < 0 ∨ 400 ≤ (((25 : Int32) * (z6.2.1 20)) + (24 : Int32)).toNatClampNeg then none else
    nm (sA z6.2 21 (((25 : Int32) * (z6.2.1 20)) + (24 : Int32)).toNatClampNeg (z6.2.1 11)) fun (s9 : ST) =>
    nm (sI s9 20 (((s9.1 20) + (1 : Int32)) - ((s9.1 20) + (1 : Int32)) / (16 : Int32) * (16 : Int32))) fun (s11 : ST) =>
    if (16 : Int32) ≤ (s11.1 19) then
      nm (sI s11 19 (16 : Int32)) fun (s14 : ST) =>
      some s14
    else
      nm (sI s11 19 ((s11.1 19) + (1 : Int32))) fun (s16 : ST) =>
      some s16
theorem cdX11_keepAct : CallD yX11_keepAct 0 := by decide +kernel
set_option maxHeartbeats 4000000 in
set_option maxRecDepth 100000 in
theorem mX11_keepAct (l : Launch) (G : GP) (F : Nat) (xx : Nat → Nat) (σxx : ST)  {r : ST} (h : fX11_keepAct F σxx  = some r) : CC l G yX11_keepAct cX11_keepAct 2 none 1 [.ref (xx 0)] (List.flatten [wX G xx σxx]) (List.flatten [wX G xx r]) none := by
  refine CC.of (by decide) (Nat.le_of_ble_eq_true rfl) ?_
  intro p e s m below meth c A K hP hD hS ls hl
  obtain ⟨hx, hb, hr, hml, hts, hown, hlocks, hA, hG⟩ := id K
  have hl : lv_has ls 2 [(0, .ref (xx 0))] := hl
  unfold fX11_keepAct at h
  refine lv_iconst (v := 0) hx hb dX11_keepAct_0 li_0 ?_
  refine lv_istore_n (lv' := [(1, .int (0 : Int32)), (0, .ref (xx 0))]) hx hb dX11_keepAct_1 rfl hl (Nat.le_of_ble_eq_true rfl) rfl (fun ls hl => ?_)
  obtain ⟨z6, hz7, h⟩ := bd_ex h
  refine kX11_keepAct_2 K F xx  (fun H locs ls hP hD hS hl => ?_) F (0 : Int32) σxx _ _ _ hP hD hS (lv_sub hl [1, 0] rfl) hz7
  refine lv_aload_n hx hb dX11_keepAct_34 rfl (lv_at hl 0 rfl) ?_
  refine va_get (D := G.1) (cl := vwCl) (tys := tysG G) (ci := 11) (v := .ref (xx 22)) (C := RX11) (T := TX11) (N := 37) hx hb hts iX11 hown hG.1 hP 0 rfl rfl 21 (Nat.le_of_ble_eq_true rfl) (hts _ tw_4_118) (fun _ h9 => h9) rfl dX11_keepAct_35 ?_
  refine lv_bipush (v := 25) hx hb dX11_keepAct_38 lb_25 ?_
  refine lv_aload_n hx hb dX11_keepAct_40 rfl (lv_at hl 0 rfl) ?_
  refine va_get (D := G.1) (cl := vwCl) (tys := tysG G) (ci := 11) (v := .int (z6.2.1 20)) (C := RX11) (T := TX11) (N := 37) hx hb hts iX11 hown hG.1 hP 0 rfl rfl 20 (Nat.le_of_ble_eq_true rfl) (hts _ tw_4_117) (fun _ h9 => h9) rfl dX11_keepAct_41 ?_
  refine lv_imul hx hb dX11_keepAct_44 ?_
  refine lv_bipush (v := 24) hx hb dX11_keepAct_45 lb_24 ?_
  refine lv_iadd hx hb dX11_keepAct_47 ?_
  refine lv_aload_n hx hb dX11_keepAct_48 rfl (lv_at hl 0 rfl) ?_
  refine va_get (D := G.1) (cl := vwCl) (tys := tysG G) (ci := 11) (v := .int (z6.2.1 11)) (C := RX11) (T := TX11) (N := 37) hx hb hts iX11 hown hG.1 hP 0 rfl rfl 11 (Nat.le_of_ble_eq_true rfl) (hts _ tw_4_108) (fun _ h9 => h9) rfl dX11_keepAct_49 ?_
  obtain ⟨ck8, h⟩ := ck h
  obtain ⟨s9, e10, h⟩ := nm_ex h
  refine va_iast hx hb hG.1 hP hD hS 10 0 rfl rfl ck8 dX11_keepAct_52 (fun H locs hP hD hS => ?_)
  have hP : va_P G.1 vwCl (List.flatten [wX G xx s9]) H := by rw [e10]; exact hP
  have hD : va_D A (List.flatten [wX G xx s9]) := by rw [e10]; exact hD
  refine lv_aload_n hx hb dX11_keepAct_53 rfl (lv_at hl 0 rfl) ?_
  refine lv_aload_n hx hb dX11_keepAct_54 rfl (lv_at hl 0 rfl) ?_
  refine va_get (D := G.1) (cl := vwCl) (tys := tysG G) (ci := 11) (v := .int (s9.1 20)) (C := RX11) (T := TX11) (N := 37) hx hb hts iX11 hown hG.1 hP 0 rfl rfl 20 (Nat.le_of_ble_eq_true rfl) (hts _ tw_4_117) (fun _ h9 => h9) rfl dX11_keepAct_55 ?_
  refine lv_iconst (v := 1) hx hb dX11_keepAct_58 li_1 ?_
  refine lv_iadd hx hb dX11_keepAct_59 ?_
  refine lv_bipush (v := 16) hx hb dX11_keepAct_60 lb_16 ?_
  refine lv_irem hx hb dX11_keepAct_62 (by decide) ?_
  obtain ⟨s11, e12, h⟩ := nm_ex h
  refine va_put (D := G.1) (cl := vwCl) (tys := tysG G) (ci := 11) (v := .int (((s9.1 20) + (1 : Int32)) - ((s9.1 20) + (1 : Int32)) / (16 : Int32) * (16 : Int32))) (ty := .int) (C := RX11) (T := TX11) (N := 37) hx hb hts iX11 tyX11 tyX11_ok nmX11 hown hG.1 hP hD hS 0 rfl rfl 20 (Nat.le_of_ble_eq_true rfl) (hts _ tw_4_117) (fun _ h9 => h9) rfl (by decide +kernel) rfl rfl (Nat.le_of_ble_eq_true rfl) dX11_keepAct_63 (fun H locs hP hD hS => ?_)
  have hP : va_P G.1 vwCl (List.flatten [wX G xx s11]) H := by rw [e12]; exact hP
  have hD : va_D A (List.flatten [wX G xx s11]) := by rw [e12]; exact hD
  refine lv_aload_n hx hb dX11_keepAct_66 rfl (lv_at hl 0 rfl) ?_
  refine lv_aload_n hx hb dX11_keepAct_67 rfl (lv_at hl 0 rfl) ?_
  refine va_get (D := G.1) (cl := vwCl) (tys := tysG G) (ci := 11) (v := .int (s11.1 19)) (C := RX11) (T := TX11) (N := 37) hx hb hts iX11 hown hG.1 hP 0 rfl rfl 19 (Nat.le_of_ble_eq_true rfl) (hts _ tw_4_116) (fun _ h9 => h9) rfl dX11_keepAct_68 ?_
  refine lv_bipush (v := 16) hx hb dX11_keepAct_71 lb_16 ?_
  refine lv_icmp_ge (tgt := 85) hx hb dX11_keepAct_73 (by decide) (fun c13 => ?_) (fun c13 => ?_)
  · have h := if_t c13 h
    refine lv_bipush (v := 16) hx hb dX11_keepAct_85 lb_16 ?_
    obtain ⟨s14, e15, h⟩ := nm_ex h
    refine va_put (D := G.1) (cl := vwCl) (tys := tysG G) (ci := 11) (v := .int (16 : Int32)) (ty := .int) (C := RX11) (T := TX11) (N := 37) hx hb hts iX11 tyX11 tyX11_ok nmX11 hown hG.1 hP hD hS 0 rfl rfl 19 (Nat.le_of_ble_eq_true rfl) (hts _ tw_4_116) (fun _ h9 => h9) rfl (by decide +kernel) rfl rfl (Nat.le_of_ble_eq_true rfl) dX11_keepAct_87 (fun H locs hP hD hS => ?_)
    have hP : va_P G.1 vwCl (List.flatten [wX G xx s14]) H := by rw [e15]; exact hP
    have hD : va_D A (List.flatten [wX G xx s14]) := by rw [e15]; exact hD
    cases h
    exact rt_v K hP hD hS dX11_keepAct_90
  · have h := if_f c13 h
    refine lv_aload_n hx hb dX11_keepAct_76 rfl (lv_at hl 0 rfl) ?_
    refine va_get (D := G.1) (cl := vwCl) (tys := tysG G) (ci := 11) (v := .int (s11.1 19)) (C := RX11) (T := TX11) (N := 37) hx hb hts iX11 hown hG.1 hP 0 rfl rfl 19 (Nat.le_of_ble_eq_true rfl) (hts _ tw_4_116) (fun _ h9 => h9) rfl dX11_keepAct_77 ?_
    refine lv_iconst (v := 1) hx hb dX11_keepAct_80 li_1 ?_
    refine lv_iadd hx hb dX11_keepAct_81 ?_
    refine lv_goto (tgt := 87) hx hb dX11_keepAct_82 (by decide) ?_
    obtain ⟨s16, e17, h⟩ := nm_ex h
    refine va_put (D := G.1) (cl := vwCl) (tys := tysG G) (ci := 11) (v := .int ((s11.1 19) + (1 : Int32))) (ty := .int) (C := RX11) (T := TX11) (N := 37) hx hb hts iX11 tyX11 tyX11_ok nmX11 hown hG.1 hP hD hS 0 rfl rfl 19 (Nat.le_of_ble_eq_true rfl) (hts _ tw_4_116) (fun _ h9 => h9) rfl (by decide +kernel) rfl rfl (Nat.le_of_ble_eq_true rfl) dX11_keepAct_87 (fun H locs hP hD hS => ?_)
    have hP : va_P G.1 vwCl (List.flatten [wX G xx s16]) H := by rw [e17]; exact hP
    have hD : va_D A (List.flatten [wX G xx s16]) := by rw [e17]; exact hD
    cases h
    exact rt_v K hP hD hS dX11_keepAct_90
def gbX11_isTaken_5 (F : Nat) (σxx : ST) (v1 : Int32) (v2 : Int32) (rc : Int32 → Int32 → Option (Int32 × Int32)) (v3 : Int32) (v4 : Int32) : Option (Int32 × Int32) :=
  if (σxx.1 11) ≤ v4 then
    some (v3, v4)
  else
    if v3 = 0 then
      if (((3 : Int32) * v4) + (1 : Int32)) < 0 ∨ 24 ≤ (((3 : Int32) * v4) + (1 : Int32)).toNatClampNeg then none else
      if (σxx.2.1 7 (((3 : Int32) * v4) + (1 : Int32)).toNatClampNeg) = v1 then
        if (((3 : Int32) * v4) + (2 : Int32)) < 0 ∨ 24 ≤ (((3 : Int32) * v4) + (2 : Int32)).toNatClampNeg then none else
        if (σxx.2.1 7 (((3 : Int32) * v4) + (2 : Int32)).toNatClampNeg) = v2 then
          rc (1 : Int32) (v4 + 1)
        else
          rc (0 : Int32) (v4 + 1)
      else
        rc (0 : Int32) (v4 + 1)
    else
      rc (1 : Int32) (v4 + 1)
def gX11_isTaken_5 (F : Nat) (σxx : ST) (v1 : Int32) (v2 : Int32) : Nat → Int32 → Int32 → Option (Int32 × Int32)
  | 0, _, _ => none
  | n + 1, v3, v4 => gbX11_isTaken_5 F σxx v1 v2 (gX11_isTaken_5 F σxx v1 v2 n) v3 v4
set_option maxHeartbeats 4000000 in
set_option maxRecDepth 100000 in
theorem kX11_isTaken_5 {p : Program} {l : Launch} {e : Env} {s : State} {m : MethodId} {args : Array Value} {below : List Frame} {meth : Method} {c : Code} {A : Nat → Prop} {Q : State → Prop} {G : GP} (K : Cx p s m meth c G cX11_isTaken RX11 5 (some .boolean) args A) (F : Nat) (xx : Nat → Nat) (σxx : ST) (v1 : Int32) (v2 : Int32) {z : Int32 × Int32} (kk : ∀ (H : Heap) (locs : List Loc) (ls : Array Slot), va_P G.1 vwCl (List.flatten [wX G xx σxx]) H → va_D A (List.flatten [wX G xx σxx]) → va_S A s.heap H locs → lv_has ls 5 [(0, .ref (xx 0)), (1, .int v1), (2, .int v2), (3, .int z.1), (4, .int z.2)] → W p l e (RM 1) s m args below meth c H locs 0 0 Q (F0 m 60 ls [])) :
    ∀ (n : Nat) (v3 : Int32) (v4 : Int32) (H : Heap) (locs : List Loc) (ls : Array Slot), va_P G.1 vwCl (List.flatten [wX G xx σxx]) H → va_D A (List.flatten [wX G xx σxx]) → va_S A s.heap H locs → lv_has ls 5 [(0, .ref (xx 0)), (1, .int v1), (2, .int v2), (3, .int v3), (4, .int v4)] → gX11_isTaken_5 F σxx v1 v2 n v3 v4 = some z → W p l e (RM 1) s m args below meth c H locs 0 0 Q (F0 m 5 ls []) := by
  obtain ⟨hx, hb, hr, hml, hts, hown, hlocks, hA, hG⟩ := id K
  intro n
  induction n with
  | zero =>
    intro v3 v4 H locs ls hP hD hS hl h
    have h : none = some z := h
    cases h
  | succ n ih =>
    intro v3 v4 H locs ls hP hD hS hl h
    have h : gbX11_isTaken_5 F σxx v1 v2 (gX11_isTaken_5 F σxx v1 v2 n) v3 v4 = some z := h
    unfold gbX11_isTaken_5 at h
    refine lv_iload hx hb dX11_isTaken_5 (lv_at hl 4 rfl) ?_
    refine lv_aload_n hx hb dX11_isTaken_7 rfl (lv_at hl 0 rfl) ?_
    refine va_get (D := G.1) (cl := vwCl) (tys := tysG G) (ci := 11) (v := .int (σxx.1 11)) (C := RX11) (T := TX11) (N := 37) hx hb hts iX11 hown hG.1 hP 0 rfl rfl 11 (Nat.le_of_ble_eq_true rfl) (hts _ tw_4_108) (fun _ h9 => h9) rfl dX11_isTaken_8 ?_
    refine lv_icmp_ge (tgt := 60) hx hb dX11_isTaken_11 (by decide) (fun c1 => ?_) (fun c1 => ?_)
    · have h := if_t c1 h
      cases h
      exact kk _ _ _ hP hD hS (lv_sub hl [0, 1, 2, 3, 4] rfl)
    · have h := if_f c1 h
      refine lv_iload_n hx hb dX11_isTaken_14 rfl (lv_at hl 3 rfl) ?_
      refine lv_if_ne (tgt := 48) hx hb dX11_isTaken_15 (by decide) (fun c2 => ?_) (fun c2 => ?_)
      · have h := if_f c2 h
        refine lv_iconst (v := 1) hx hb dX11_isTaken_48 li_1 ?_
        refine lv_goto (tgt := 53) hx hb dX11_isTaken_49 (by decide) ?_
        refine lv_istore_n (lv' := [(3, .int (1 : Int32)), (0, .ref (xx 0)), (1, .int v1), (2, .int v2), (4, .int v4)]) hx hb dX11_isTaken_53 rfl hl (Nat.le_of_ble_eq_true rfl) rfl (fun ls hl => ?_)
        refine lv_iinc (v := v4 + 1) (lv' := [(4, .int (v4 + 1)), (3, .int (1 : Int32)), (0, .ref (xx 0)), (1, .int v1), (2, .int v2)]) hx hb dX11_isTaken_54 hl (k := 4) rfl (by rw [li_1]) (Nat.le_of_ble_eq_true rfl) rfl (fun ls hl => ?_)
        refine lv_goto (tgt := 5) hx hb dX11_isTaken_57 (by decide) ?_
        exact ih (1 : Int32) (v4 + 1) _ _ _ hP hD hS (lv_sub hl [2, 3, 4, 1, 0] rfl) h
      · have h := if_t c2 h
        refine lv_aload_n hx hb dX11_isTaken_18 rfl (lv_at hl 0 rfl) ?_
        refine va_get (D := G.1) (cl := vwCl) (tys := tysG G) (ci := 11) (v := .ref (xx 8)) (C := RX11) (T := TX11) (N := 37) hx hb hts iX11 hown hG.1 hP 0 rfl rfl 7 (Nat.le_of_ble_eq_true rfl) (hts _ tw_4_104) (fun _ h9 => h9) rfl dX11_isTaken_19 ?_
        refine lv_iconst (v := 3) hx hb dX11_isTaken_22 li_3 ?_
        refine lv_iload hx hb dX11_isTaken_23 (lv_at hl 4 rfl) ?_
        refine lv_imul hx hb dX11_isTaken_25 ?_
        refine lv_iconst (v := 1) hx hb dX11_isTaken_26 li_1 ?_
        refine lv_iadd hx hb dX11_isTaken_27 ?_
        obtain ⟨ck3, h⟩ := ck h
        refine va_iald hx hb hG.1 hP 5 0 rfl rfl ck3 dX11_isTaken_28 ?_
        refine lv_iload_n hx hb dX11_isTaken_29 rfl (lv_at hl 1 rfl) ?_
        refine lv_icmp_ne (tgt := 52) hx hb dX11_isTaken_30 (by decide) (fun c4 => ?_) (fun c4 => ?_)
        · have h := if_f c4 h
          refine lv_iconst (v := 0) hx hb dX11_isTaken_52 li_0 ?_
          refine lv_istore_n (lv' := [(3, .int (0 : Int32)), (0, .ref (xx 0)), (1, .int v1), (2, .int v2), (4, .int v4)]) hx hb dX11_isTaken_53 rfl hl (Nat.le_of_ble_eq_true rfl) rfl (fun ls hl => ?_)
          refine lv_iinc (v := v4 + 1) (lv' := [(4, .int (v4 + 1)), (3, .int (0 : Int32)), (0, .ref (xx 0)), (1, .int v1), (2, .int v2)]) hx hb dX11_isTaken_54 hl (k := 4) rfl (by rw [li_1]) (Nat.le_of_ble_eq_true rfl) rfl (fun ls hl => ?_)
          refine lv_goto (tgt := 5) hx hb dX11_isTaken_57 (by decide) ?_
          exact ih (0 : Int32) (v4 + 1) _ _ _ hP hD hS (lv_sub hl [2, 3, 4, 1, 0] rfl) h
        · have h := if_t c4 h
          refine lv_aload_n hx hb dX11_isTaken_33 rfl (lv_at hl 0 rfl) ?_
          refine va_get (D := G.1) (cl := vwCl) (tys := tysG G) (ci := 11) (v := .ref (xx 8)) (C := RX11) (T := TX11) (N := 37) hx hb hts iX11 hown hG.1 hP 0 rfl rfl 7 (Nat.le_of_ble_eq_true rfl) (hts _ tw_4_104) (fun _ h9 => h9) rfl dX11_isTaken_34 ?_
          refine lv_iconst (v := 3) hx hb dX11_isTaken_37 li_3 ?_
          refine lv_iload hx hb dX11_isTaken_38 (lv_at hl 4 rfl) ?_
          refine lv_imul hx hb dX11_isTaken_40 ?_
          refine lv_iconst (v := 2) hx hb dX11_isTaken_41 li_2 ?_
          refine lv_iadd hx hb dX11_isTaken_42 ?_
          obtain ⟨ck5, h⟩ := ck h
          refine va_iald hx hb hG.1 hP 5 0 rfl rfl ck5 dX11_isTaken_43 ?_
          refine lv_iload_n hx hb dX11_isTaken_44 rfl (lv_at hl 2 rfl) ?_
          refine lv_icmp_ne (tgt := 52) hx hb dX11_isTaken_45 (by decide) (fun c6 => ?_) (fun c6 => ?_)
          · have h := if_f c6 h
            refine lv_iconst (v := 0) hx hb dX11_isTaken_52 li_0 ?_
            refine lv_istore_n (lv' := [(3, .int (0 : Int32)), (0, .ref (xx 0)), (1, .int v1), (2, .int v2), (4, .int v4)]) hx hb dX11_isTaken_53 rfl hl (Nat.le_of_ble_eq_true rfl) rfl (fun ls hl => ?_)
            refine lv_iinc (v := v4 + 1) (lv' := [(4, .int (v4 + 1)), (3, .int (0 : Int32)), (0, .ref (xx 0)), (1, .int v1), (2, .int v2)]) hx hb dX11_isTaken_54 hl (k := 4) rfl (by rw [li_1]) (Nat.le_of_ble_eq_true rfl) rfl (fun ls hl => ?_)
            refine lv_goto (tgt := 5) hx hb dX11_isTaken_57 (by decide) ?_
            exact ih (0 : Int32) (v4 + 1) _ _ _ hP hD hS (lv_sub hl [2, 3, 4, 1, 0] rfl) h
          · have h := if_t c6 h
            refine lv_iconst (v := 1) hx hb dX11_isTaken_48 li_1 ?_
            refine lv_goto (tgt := 53) hx hb dX11_isTaken_49 (by decide) ?_
            refine lv_istore_n (lv' := [(3, .int (1 : Int32)), (0, .ref (xx 0)), (1, .int v1), (2, .int v2), (4, .int v4)]) hx hb dX11_isTaken_53 rfl hl (Nat.le_of_ble_eq_true rfl) rfl (fun ls hl => ?_)
            refine lv_iinc (v := v4 + 1) (lv' := [(4, .int (v4 + 1)), (3, .int (1 : Int32)), (0, .ref (xx 0)), (1, .int v1), (2, .int v2)]) hx hb dX11_isTaken_54 hl (k := 4) rfl (by rw [li_1]) (Nat.le_of_ble_eq_true rfl) rfl (fun ls hl => ?_)
            refine lv_goto (tgt := 5) hx hb dX11_isTaken_57 (by decide) ?_
            exact ih (1 : Int32) (v4 + 1) _ _ _ hP hD hS (lv_sub hl [2, 3, 4, 1, 0] rfl) h
def fX11_isTaken (F : Nat) (σxx : ST) (x1 : Int32) (x2 : Int32) : Option (Int32) :=
  (gX11_isTaken_5 F σxx x1 x2 F (0 : Int32) (0 : Int32)).bind fun z7 =>
    if ¬ (z7.1 = 0 ∨ z7.1 = 1) then none else
    some z7.1
theorem cdX11_isTaken : CallD yX11_isTaken 2 := by decide +kernel
set_option maxHeartbeats 4000000 in
set_option maxRecDepth 100000 in
theorem mX11_isTaken (l : Launch) (G : GP) (F : Nat) (xx : Nat → Nat) (σxx : ST) (x1 : Int32) (x2 : Int32) {r : Int32} (h : fX11_isTaken F σxx x1 x2 = some r) : CC l G yX11_isTaken cX11_isTaken 5 (some .boolean) 1 [.ref (xx 0), .int x1, .int x2] (List.flatten [wX G xx σxx]) (List.flatten [wX G xx σxx]) (some (.int r)) := by
  refine CC.of (by decide) (Nat.le_of_ble_eq_true rfl) ?_
  intro p e s m below meth c A K hP hD hS ls hl
  obtain ⟨hx, hb, hr, hml, hts, hown, hlocks, hA, hG⟩ := id K
  have hl : lv_has ls 5 [(0, .ref (xx 0)), (1, .int x1), (2, .int x2)] := hl
  unfold fX11_isTaken at h
  refine lv_iconst (v := 0) hx hb dX11_isTaken_0 li_0 ?_
  refine lv_istore_n (lv' := [(3, .int (0 : Int32)), (0, .ref (xx 0)), (1, .int x1), (2, .int x2)]) hx hb dX11_isTaken_1 rfl hl (Nat.le_of_ble_eq_true rfl) rfl (fun ls hl => ?_)
  refine lv_iconst (v := 0) hx hb dX11_isTaken_2 li_0 ?_
  refine lv_istore (lv' := [(4, .int (0 : Int32)), (3, .int (0 : Int32)), (0, .ref (xx 0)), (1, .int x1), (2, .int x2)]) hx hb dX11_isTaken_3 hl (Nat.le_of_ble_eq_true rfl) rfl (fun ls hl => ?_)
  obtain ⟨z7, hz8, h⟩ := bd_ex h
  refine kX11_isTaken_5 K F xx σxx x1 x2 (fun H locs ls hP hD hS hl => ?_) F (0 : Int32) (0 : Int32) _ _ _ hP hD hS (lv_sub hl [2, 3, 4, 1, 0] rfl) hz8
  refine lv_iload_n hx hb dX11_isTaken_60 rfl (lv_at hl 3 rfl) ?_
  obtain ⟨ck9, h⟩ := ck h
  cases h
  exact rt_z K (Classical.not_not.mp ck9) hP hD hS dX11_isTaken_61
def fX11_put (F : Nat) (σxx : ST) (x1 : Int32) (x2 : Int32) (x3 : Int32) : Option (Int32 × ST) :=
  (fX11_in F x1.toInt64 (0 : Int64) (5 : Int64)).bind fun r1 =>
  if r1 = 0 then
    some ((-2 : Int32), σxx)
  else
    (fX11_isCell F x2 x3).bind fun r4 =>
    if r4 = 0 then
      some ((-2 : Int32), σxx)
    else
      (fX11_isTaken F σxx x2 x3).bind fun r7 =>
      if r7 = 0 then
        if (σxx.1 11) = (8 : Int32) then
          some ((-4 : Int32), σxx)
        else
          (fX11_keepAct F σxx).bind fun r11 =>
          if ((3 : Int32) * (r11.1 11)) < 0 ∨ 24 ≤ ((3 : Int32) * (r11.1 11)).toNatClampNeg then none else
          nm (sA r11 7 ((3 : Int32) * (r11.1 11)).toNatClampNeg x1) fun (s14 : ST) =>
          if (((3 : Int32) * (s14.1 11)) + (1 : Int32)) < 0 ∨ 24 ≤ (((3 : Int32) * (s14.1 11)) + (1 : Int32)).toNatClampNeg then none else
          nm (sA s14 7 (((3 : Int32) * (s14.1 11)) + (1 : Int32)).toNatClampNeg x2) fun (s17 : ST) =>
          if (((3 : Int32) * (s17.1 11)) + (2 : Int32)) < 0 ∨ 24 ≤ (((3 : Int32) * (s17.1 11)) + (2 : Int32)).toNatClampNeg then none else
          nm (sA s17 7 (((3 : Int32) * (s17.1 11)) + (2 : Int32)).toNatClampNeg x3) fun (s20 : ST) =>
          nm (sI s20 11 ((s20.1 11) + (1 : Int32))) fun (s22 : ST) =>
          some ((s22.1 11) - (1 : Int32), s22)
      else
        some ((-3 : Int32), σxx)
theorem cdX11_put : CallD yX11_put 3 := by decide +kernel
set_option maxHeartbeats 4000000 in
set_option maxRecDepth 100000 in
theorem mX11_put (l : Launch) (G : GP) (F : Nat) (xx : Nat → Nat) (σxx : ST) (x1 : Int32) (x2 : Int32) (x3 : Int32) {r : Int32 × ST} (h : fX11_put F σxx x1 x2 x3 = some r) : CC l G yX11_put cX11_put 4 (some .int) 3 [.ref (xx 0), .int x1, .int x2, .int x3] (List.flatten [wX G xx σxx]) (List.flatten [wX G xx r.2]) (some (.int r.1)) := by
  refine CC.of (by decide) (Nat.le_of_ble_eq_true rfl) ?_
  intro p e s m below meth c A K hP hD hS ls hl
  obtain ⟨hx, hb, hr, hml, hts, hown, hlocks, hA, hG⟩ := id K
  have hl : lv_has ls 4 [(0, .ref (xx 0)), (1, .int x1), (2, .int x2), (3, .int x3)] := hl
  unfold fX11_put at h
  refine lv_iload_n hx hb dX11_put_0 rfl (lv_at hl 1 rfl) ?_
  refine lv_i2l (v := x1.toInt64) hx hb dX11_put_1 rfl ?_
  refine lv_lconst (v := 0) hx hb dX11_put_2 ll_0 ?_
  refine lv_ldc2 (v := 5) hx hb hown (hts _ tw_5_57) dX11_put_3 ?_
  obtain ⟨r1, hc2, h⟩ := bd_ex h
  refine sl_S K (mX11_in l G F x1.toInt64 (0 : Int64) (5 : Int64) hc2) tw_4_217 tw_1_12 tw_4_216 tw_4_215 cdX11_in ⟨Nat.le_of_ble_eq_true rfl, Nat.le_of_ble_eq_true rfl⟩ hP hD hS [] rfl rfl rfl rfl hl.1 (Nat.le_of_ble_eq_true rfl) ⟨Nat.zero_le _, Nat.zero_le _⟩ dX11_put_6 (fun H locs hP hD hS => ?_)
  have hP : va_P G.1 vwCl (List.flatten [wX G xx σxx]) H := hP
  have hD : va_D A (List.flatten [wX G xx σxx]) := hD
  refine lv_if_eq (tgt := 20) hx hb dX11_put_9 (by decide) (fun c3 => ?_) (fun c3 => ?_)
  · have h := if_t c3 h
    refine lv_bipush (v := -2) hx hb dX11_put_20 lb_m2 ?_
    cases h
    exact rt_i K hP hD hS dX11_put_22
  · have h := if_f c3 h
    refine lv_iload_n hx hb dX11_put_12 rfl (lv_at hl 2 rfl) ?_
    refine lv_iload_n hx hb dX11_put_13 rfl (lv_at hl 3 rfl) ?_
    obtain ⟨r4, hc5, h⟩ := bd_ex h
    refine sl_S K (mX11_isCell l G F x2 x3 hc5) tw_5_60 tw_1_12 tw_5_59 tw_5_58 cdX11_isCell ⟨Nat.le_of_ble_eq_true rfl, Nat.le_of_ble_eq_true rfl⟩ hP hD hS [] rfl rfl rfl rfl hl.1 (Nat.le_of_ble_eq_true rfl) ⟨Nat.zero_le _, Nat.zero_le _⟩ dX11_put_14 (fun H locs hP hD hS => ?_)
    have hP : va_P G.1 vwCl (List.flatten [wX G xx σxx]) H := hP
    have hD : va_D A (List.flatten [wX G xx σxx]) := hD
    refine lv_if_ne (tgt := 23) hx hb dX11_put_17 (by decide) (fun c6 => ?_) (fun c6 => ?_)
    · have h := if_f c6 h
      refine lv_aload_n hx hb dX11_put_23 rfl (lv_at hl 0 rfl) ?_
      refine lv_iload_n hx hb dX11_put_24 rfl (lv_at hl 2 rfl) ?_
      refine lv_iload_n hx hb dX11_put_25 rfl (lv_at hl 3 rfl) ?_
      obtain ⟨r7, hc8, h⟩ := bd_ex h
      refine sl_V (q0 := 0) (ci := 11) (C := RX11) K (mX11_isTaken l G F xx σxx x2 x3 hc8) tw_5_65 tw_1_12 tw_5_64 tw_0_10 tw_5_62 cdX11_isTaken ⟨Nat.le_of_ble_eq_true rfl, Nat.le_of_ble_eq_true rfl⟩ hP hD hS [0] rfl rfl rfl rfl rfl rfl rfl hl.1 (Nat.le_of_ble_eq_true rfl) ⟨Nat.zero_le _, Nat.zero_le _⟩ dX11_put_26 (fun H locs hP hD hS => ?_)
      have hP : va_P G.1 vwCl (List.flatten [wX G xx σxx]) H := hP
      have hD : va_D A (List.flatten [wX G xx σxx]) := hD
      refine lv_if_eq (tgt := 35) hx hb dX11_put_29 (by decide) (fun c9 => ?_) (fun c9 => ?_)
      · have h := if_t c9 h
        refine lv_aload_n hx hb dX11_put_35 rfl (lv_at hl 0 rfl) ?_
        refine va_get (D := G.1) (cl := vwCl) (tys := tysG G) (ci := 11) (v := .int (σxx.1 11)) (C := RX11) (T := TX11) (N := 37) hx hb hts iX11 hown hG.1 hP 0 rfl rfl 11 (Nat.le_of_ble_eq_true rfl) (hts _ tw_4_108) (fun _ h9 => h9) rfl dX11_put_36 ?_
        refine lv_bipush (v := 8) hx hb dX11_put_39 lb_8 ?_
        refine lv_icmp_ne (tgt := 47) hx hb dX11_put_41 (by decide) (fun c10 => ?_) (fun c10 => ?_)
        · have h := if_f c10 h
          refine lv_aload_n hx hb dX11_put_47 rfl (lv_at hl 0 rfl) ?_
          obtain ⟨r11, hc12, h⟩ := bd_ex h
          refine sl_V (q0 := 0) (ci := 11) (C := RX11) K (mX11_keepAct l G F xx σxx hc12) tw_5_69 tw_1_12 tw_5_68 tw_0_11 tw_5_66 cdX11_keepAct ⟨Nat.le_of_ble_eq_true rfl, Nat.le_of_ble_eq_true rfl⟩ hP hD hS [0] rfl rfl rfl rfl rfl rfl rfl hl.1 (Nat.le_of_ble_eq_true rfl) ⟨Nat.zero_le _, Nat.zero_le _⟩ dX11_put_48 (fun H locs hP hD hS => ?_)
          have hP : va_P G.1 vwCl (List.flatten [wX G xx r11]) H := hP
          have hD : va_D A (List.flatten [wX G xx r11]) := hD
          refine lv_aload_n hx hb dX11_put_51 rfl (lv_at hl 0 rfl) ?_
          refine va_get (D := G.1) (cl := vwCl) (tys := tysG G) (ci := 11) (v := .ref (xx 8)) (C := RX11) (T := TX11) (N := 37) hx hb hts iX11 hown hG.1 hP 0 rfl rfl 7 (Nat.le_of_ble_eq_true rfl) (hts _ tw_4_104) (fun _ h9 => h9) rfl dX11_put_52 ?_
          refine lv_iconst (v := 3) hx hb dX11_put_55 li_3 ?_
          refine lv_aload_n hx hb dX11_put_56 rfl (lv_at hl 0 rfl) ?_
          refine va_get (D := G.1) (cl := vwCl) (tys := tysG G) (ci := 11) (v := .int (r11.1 11)) (C := RX11) (T := TX11) (N := 37) hx hb hts iX11 hown hG.1 hP 0 rfl rfl 11 (Nat.le_of_ble_eq_true rfl) (hts _ tw_4_108) (fun _ h9 => h9) rfl dX11_put_57 ?_
          refine lv_imul hx hb dX11_put_60 ?_
          refine lv_iload_n hx hb dX11_put_61 rfl (lv_at hl 1 rfl) ?_
          obtain ⟨ck13, h⟩ := ck h
          obtain ⟨s14, e15, h⟩ := nm_ex h
          refine va_iast hx hb hG.1 hP hD hS 5 0 rfl rfl ck13 dX11_put_62 (fun H locs hP hD hS => ?_)
          have hP : va_P G.1 vwCl (List.flatten [wX G xx s14]) H := by rw [e15]; exact hP
          have hD : va_D A (List.flatten [wX G xx s14]) := by rw [e15]; exact hD
          refine lv_aload_n hx hb dX11_put_63 rfl (lv_at hl 0 rfl) ?_
          refine va_get (D := G.1) (cl := vwCl) (tys := tysG G) (ci := 11) (v := .ref (xx 8)) (C := RX11) (T := TX11) (N := 37) hx hb hts iX11 hown hG.1 hP 0 rfl rfl 7 (Nat.le_of_ble_eq_true rfl) (hts _ tw_4_104) (fun _ h9 => h9) rfl dX11_put_64 ?_
          refine lv_iconst (v := 3) hx hb dX11_put_67 li_3 ?_
          refine lv_aload_n hx hb dX11_put_68 rfl (lv_at hl 0 rfl) ?_
          refine va_get (D := G.1) (cl := vwCl) (tys := tysG G) (ci := 11) (v := .int (s14.1 11)) (C := RX11) (T := TX11) (N := 37) hx hb hts iX11 hown hG.1 hP 0 rfl rfl 11 (Nat.le_of_ble_eq_true rfl) (hts _ tw_4_108) (fun _ h9 => h9) rfl dX11_put_69 ?_
          refine lv_imul hx hb dX11_put_72 ?_
          refine lv_iconst (v := 1) hx hb dX11_put_73 li_1 ?_
          refine lv_iadd hx hb dX11_put_74 ?_
          refine lv_iload_n hx hb dX11_put_75 rfl (lv_at hl 2 rfl) ?_
          obtain ⟨ck16, h⟩ := ck h
          obtain ⟨s17, e18, h⟩ := nm_ex h
          refine va_iast hx hb hG.1 hP hD hS 5 0 rfl rfl ck16 dX11_put_76 (fun H locs hP hD hS => ?_)
          have hP : va_P G.1 vwCl (List.flatten [wX G xx s17]) H := by rw [e18]; exact hP
          have hD : va_D A (List.flatten [wX G xx s17]) := by rw [e18]; exact hD
          refine lv_aload_n hx hb dX11_put_77 rfl (lv_at hl 0 rfl) ?_
          refine va_get (D := G.1) (cl := vwCl) (tys := tysG G) (ci := 11) (v := .ref (xx 8)) (C := RX11) (T := TX11) (N := 37) hx hb hts iX11 hown hG.1 hP 0 rfl rfl 7 (Nat.le_of_ble_eq_true rfl) (hts _ tw_4_104) (fun _ h9 => h9) rfl dX11_put_78 ?_
          refine lv_iconst (v := 3) hx hb dX11_put_81 li_3 ?_
          refine lv_aload_n hx hb dX11_put_82 rfl (lv_at hl 0 rfl) ?_
          refine va_get (D := G.1) (cl := vwCl) (tys := tysG G) (ci := 11) (v := .int (s17.1 11)) (C := RX11) (T := TX11) (N := 37) hx hb hts iX11 hown hG.1 hP 0 rfl rfl 11 (Nat.le_of_ble_eq_true rfl) (hts _ tw_4_108) (fun _ h9 => h9) rfl dX11_put_83 ?_
          refine lv_imul hx hb dX11_put_86 ?_
          refine lv_iconst (v := 2) hx hb dX11_put_87 li_2 ?_
          refine lv_iadd hx hb dX11_put_88 ?_
          refine lv_iload_n hx hb dX11_put_89 rfl (lv_at hl 3 rfl) ?_
          obtain ⟨ck19, h⟩ := ck h
          obtain ⟨s20, e21, h⟩ := nm_ex h
          refine va_iast hx hb hG.1 hP hD hS 5 0 rfl rfl ck19 dX11_put_90 (fun H locs hP hD hS => ?_)
          have hP : va_P G.1 vwCl (List.flatten [wX G xx s20]) H := by rw [e21]; exact hP
          have hD : va_D A (List.flatten [wX G xx s20]) := by rw [e21]; exact hD
          refine lv_aload_n hx hb dX11_put_91 rfl (lv_at hl 0 rfl) ?_
          refine lv_dup hx hb dX11_put_92 rfl ?_
          refine va_get (D := G.1) (cl := vwCl) (tys := tysG G) (ci := 11) (v := .int (s20.1 11)) (C := RX11) (T := TX11) (N := 37) hx hb hts iX11 hown hG.1 hP 0 rfl rfl 11 (Nat.le_of_ble_eq_true rfl) (hts _ tw_4_108) (fun _ h9 => h9) rfl dX11_put_93 ?_
          refine lv_iconst (v := 1) hx hb dX11_put_96 li_1 ?_
          refine lv_iadd hx hb dX11_put_97 ?_
          obtain ⟨s22, e23, h⟩ := nm_ex h
          refine va_put (D := G.1) (cl := vwCl) (tys := tysG G) (ci := 11) (v := .int ((s20.1 11) + (1 : Int32))) (ty := .int) (C := RX11) (T := TX11) (N := 37) hx hb hts iX11 tyX11 tyX11_ok nmX11 hown hG.1 hP hD hS 0 rfl rfl 11 (Nat.le_of_ble_eq_true rfl) (hts _ tw_4_108) (fun _ h9 => h9) rfl (by decide +kernel) rfl rfl (Nat.le_of_ble_eq_true rfl) dX11_put_98 (fun H locs hP hD hS => ?_)
          have hP : va_P G.1 vwCl (List.flatten [wX G xx s22]) H := by rw [e23]; exact hP
          have hD : va_D A (List.flatten [wX G xx s22]) := by rw [e23]; exact hD
          refine lv_aload_n hx hb dX11_put_101 rfl (lv_at hl 0 rfl) ?_
          refine va_get (D := G.1) (cl := vwCl) (tys := tysG G) (ci := 11) (v := .int (s22.1 11)) (C := RX11) (T := TX11) (N := 37) hx hb hts iX11 hown hG.1 hP 0 rfl rfl 11 (Nat.le_of_ble_eq_true rfl) (hts _ tw_4_108) (fun _ h9 => h9) rfl dX11_put_102 ?_
          refine lv_iconst (v := 1) hx hb dX11_put_105 li_1 ?_
          refine lv_isub hx hb dX11_put_106 ?_
          cases h
          exact rt_i K hP hD hS dX11_put_107
        · have h := if_t c10 h
          refine lv_bipush (v := -4) hx hb dX11_put_44 lb_m4 ?_
          cases h
          exact rt_i K hP hD hS dX11_put_46
      · have h := if_f c9 h
        refine lv_bipush (v := -3) hx hb dX11_put_32 lb_m3 ?_
        cases h
        exact rt_i K hP hD hS dX11_put_34
    · have h := if_t c6 h
      refine lv_bipush (v := -2) hx hb dX11_put_20 lb_m2 ?_
      cases h
      exact rt_i K hP hD hS dX11_put_22
def fX11_move (F : Nat) (σxx : ST) (x1 : Int32) (x2 : Int32) (x3 : Int32) : Option (Int32 × ST) :=
  (fX11_isBody F σxx x1).bind fun r1 =>
  if r1 = 0 then
    some ((-1 : Int32), σxx)
  else
    (fX11_isCell F x2 x3).bind fun r4 =>
    if r4 = 0 then
      some ((-2 : Int32), σxx)
    else
      (fX11_isTaken F σxx x2 x3).bind fun r7 =>
      if r7 = 0 then
        (fX11_keepAct F σxx).bind fun r10 =>
        if (((3 : Int32) * x1) + (1 : Int32)) < 0 ∨ 24 ≤ (((3 : Int32) * x1) + (1 : Int32)).toNatClampNeg then none else
        (fX11_without F ((r10.2.1 7 (((3 : Int32) * x1) + (1 : Int32)).toNatClampNeg) - x2)).bind fun r13 =>
        if (((3 : Int32) * x1) + (2 : Int32)) < 0 ∨ 24 ≤ (((3 : Int32) * x1) + (2 : Int32)).toNatClampNeg then none else
        (fX11_without F ((r10.2.1 7 (((3 : Int32) * x1) + (2 : Int32)).toNatClampNeg) - x3)).bind fun r16 =>
        nm (sA r10 7 (((3 : Int32) * x1) + (1 : Int32)).toNatClampNeg x2) fun (s18 : ST) =>
        nm (sA s18 7 (((3 : Int32) * x1) + (2 : Int32)).toNatClampNeg x3) fun (s20 : ST) =>
        some (r13 + r16, s20)
      else
        some ((-3 : Int32), σxx)
theorem cdX11_move : CallD yX11_move 3 := by decide +kernel
set_option maxHeartbeats 4000000 in
set_option maxRecDepth 100000 in
theorem mX11_move (l : Launch) (G : GP) (F : Nat) (xx : Nat → Nat) (σxx : ST) (x1 : Int32) (x2 : Int32) (x3 : Int32) {r : Int32 × ST} (h : fX11_move F σxx x1 x2 x3 = some r) : CC l G yX11_move cX11_move 5 (some .int) 3 [.ref (xx 0), .int x1, .int x2, .int x3] (List.flatten [wX G xx σxx]) (List.flatten [wX G xx r.2]) (some (.int r.1)) := by
  refine CC.of (by decide) (Nat.le_of_ble_eq_true rfl) ?_
  intro p e s m below meth c A K hP hD hS ls hl
  obtain ⟨hx, hb, hr, hml, hts, hown, hlocks, hA, hG⟩ := id K
  have hl : lv_has ls 5 [(0, .ref (xx 0)), (1, .int x1), (2, .int x2), (3, .int x3)] := hl
  unfold fX11_move at h
  refine lv_aload_n hx hb dX11_move_0 rfl (lv_at hl 0 rfl) ?_
  refine lv_iload_n hx hb dX11_move_1 rfl (lv_at hl 1 rfl) ?_
  obtain ⟨r1, hc2, h⟩ := bd_ex h
  refine sl_V (q0 := 0) (ci := 11) (C := RX11) K (mX11_isBody l G F xx σxx x1 hc2) tw_5_37 tw_1_12 tw_5_36 tw_0_8 tw_5_34 cdX11_isBody ⟨Nat.le_of_ble_eq_true rfl, Nat.le_of_ble_eq_true rfl⟩ hP hD hS [0] rfl rfl rfl rfl rfl rfl rfl hl.1 (Nat.le_of_ble_eq_true rfl) ⟨Nat.zero_le _, Nat.zero_le _⟩ dX11_move_2 (fun H locs hP hD hS => ?_)
  have hP : va_P G.1 vwCl (List.flatten [wX G xx σxx]) H := hP
  have hD : va_D A (List.flatten [wX G xx σxx]) := hD
  refine lv_if_ne (tgt := 10) hx hb dX11_move_5 (by decide) (fun c3 => ?_) (fun c3 => ?_)
  · have h := if_f c3 h
    refine lv_iload_n hx hb dX11_move_10 rfl (lv_at hl 2 rfl) ?_
    refine lv_iload_n hx hb dX11_move_11 rfl (lv_at hl 3 rfl) ?_
    obtain ⟨r4, hc5, h⟩ := bd_ex h
    refine sl_S K (mX11_isCell l G F x2 x3 hc5) tw_5_60 tw_1_12 tw_5_59 tw_5_58 cdX11_isCell ⟨Nat.le_of_ble_eq_true rfl, Nat.le_of_ble_eq_true rfl⟩ hP hD hS [] rfl rfl rfl rfl hl.1 (Nat.le_of_ble_eq_true rfl) ⟨Nat.zero_le _, Nat.zero_le _⟩ dX11_move_12 (fun H locs hP hD hS => ?_)
    have hP : va_P G.1 vwCl (List.flatten [wX G xx σxx]) H := hP
    have hD : va_D A (List.flatten [wX G xx σxx]) := hD
    refine lv_if_ne (tgt := 21) hx hb dX11_move_15 (by decide) (fun c6 => ?_) (fun c6 => ?_)
    · have h := if_f c6 h
      refine lv_aload_n hx hb dX11_move_21 rfl (lv_at hl 0 rfl) ?_
      refine lv_iload_n hx hb dX11_move_22 rfl (lv_at hl 2 rfl) ?_
      refine lv_iload_n hx hb dX11_move_23 rfl (lv_at hl 3 rfl) ?_
      obtain ⟨r7, hc8, h⟩ := bd_ex h
      refine sl_V (q0 := 0) (ci := 11) (C := RX11) K (mX11_isTaken l G F xx σxx x2 x3 hc8) tw_5_65 tw_1_12 tw_5_64 tw_0_10 tw_5_62 cdX11_isTaken ⟨Nat.le_of_ble_eq_true rfl, Nat.le_of_ble_eq_true rfl⟩ hP hD hS [0] rfl rfl rfl rfl rfl rfl rfl hl.1 (Nat.le_of_ble_eq_true rfl) ⟨Nat.zero_le _, Nat.zero_le _⟩ dX11_move_24 (fun H locs hP hD hS => ?_)
      have hP : va_P G.1 vwCl (List.flatten [wX G xx σxx]) H := hP
      have hD : va_D A (List.flatten [wX G xx σxx]) := hD
      refine lv_if_eq (tgt := 33) hx hb dX11_move_27 (by decide) (fun c9 => ?_) (fun c9 => ?_)
      · have h := if_t c9 h
        refine lv_aload_n hx hb dX11_move_33 rfl (lv_at hl 0 rfl) ?_
        obtain ⟨r10, hc11, h⟩ := bd_ex h
        refine sl_V (q0 := 0) (ci := 11) (C := RX11) K (mX11_keepAct l G F xx σxx hc11) tw_5_69 tw_1_12 tw_5_68 tw_0_11 tw_5_66 cdX11_keepAct ⟨Nat.le_of_ble_eq_true rfl, Nat.le_of_ble_eq_true rfl⟩ hP hD hS [0] rfl rfl rfl rfl rfl rfl rfl hl.1 (Nat.le_of_ble_eq_true rfl) ⟨Nat.zero_le _, Nat.zero_le _⟩ dX11_move_34 (fun H locs hP hD hS => ?_)
        have hP : va_P G.1 vwCl (List.flatten [wX G xx r10]) H := hP
        have hD : va_D A (List.flatten [wX G xx r10]) := hD
        refine lv_aload_n hx hb dX11_move_37 rfl (lv_at hl 0 rfl) ?_
        refine va_get (D := G.1) (cl := vwCl) (tys := tysG G) (ci := 11) (v := .ref (xx 8)) (C := RX11) (T := TX11) (N := 37) hx hb hts iX11 hown hG.1 hP 0 rfl rfl 7 (Nat.le_of_ble_eq_true rfl) (hts _ tw_4_104) (fun _ h9 => h9) rfl dX11_move_38 ?_
        refine lv_iconst (v := 3) hx hb dX11_move_41 li_3 ?_
        refine lv_iload_n hx hb dX11_move_42 rfl (lv_at hl 1 rfl) ?_
        refine lv_imul hx hb dX11_move_43 ?_
        refine lv_iconst (v := 1) hx hb dX11_move_44 li_1 ?_
        refine lv_iadd hx hb dX11_move_45 ?_
        obtain ⟨ck12, h⟩ := ck h
        refine va_iald hx hb hG.1 hP 5 0 rfl rfl ck12 dX11_move_46 ?_
        refine lv_iload_n hx hb dX11_move_47 rfl (lv_at hl 2 rfl) ?_
        refine lv_isub hx hb dX11_move_48 ?_
        obtain ⟨r13, hc14, h⟩ := bd_ex h
        refine sl_S K (mX11_without l G F ((r10.2.1 7 (((3 : Int32) * x1) + (1 : Int32)).toNatClampNeg) - x2) hc14) tw_5_76 tw_1_12 tw_5_75 tw_5_74 cdX11_without ⟨Nat.le_of_ble_eq_true rfl, Nat.le_of_ble_eq_true rfl⟩ hP hD hS [] rfl rfl rfl rfl hl.1 (Nat.le_of_ble_eq_true rfl) ⟨Nat.zero_le _, Nat.zero_le _⟩ dX11_move_49 (fun H locs hP hD hS => ?_)
        have hP : va_P G.1 vwCl (List.flatten [wX G xx r10]) H := hP
        have hD : va_D A (List.flatten [wX G xx r10]) := hD
        refine lv_aload_n hx hb dX11_move_52 rfl (lv_at hl 0 rfl) ?_
        refine va_get (D := G.1) (cl := vwCl) (tys := tysG G) (ci := 11) (v := .ref (xx 8)) (C := RX11) (T := TX11) (N := 37) hx hb hts iX11 hown hG.1 hP 0 rfl rfl 7 (Nat.le_of_ble_eq_true rfl) (hts _ tw_4_104) (fun _ h9 => h9) rfl dX11_move_53 ?_
        refine lv_iconst (v := 3) hx hb dX11_move_56 li_3 ?_
        refine lv_iload_n hx hb dX11_move_57 rfl (lv_at hl 1 rfl) ?_
        refine lv_imul hx hb dX11_move_58 ?_
        refine lv_iconst (v := 2) hx hb dX11_move_59 li_2 ?_
        refine lv_iadd hx hb dX11_move_60 ?_
        obtain ⟨ck15, h⟩ := ck h
        refine va_iald hx hb hG.1 hP 5 0 rfl rfl ck15 dX11_move_61 ?_
        refine lv_iload_n hx hb dX11_move_62 rfl (lv_at hl 3 rfl) ?_
        refine lv_isub hx hb dX11_move_63 ?_
        obtain ⟨r16, hc17, h⟩ := bd_ex h
        refine sl_S K (mX11_without l G F ((r10.2.1 7 (((3 : Int32) * x1) + (2 : Int32)).toNatClampNeg) - x3) hc17) tw_5_76 tw_1_12 tw_5_75 tw_5_74 cdX11_without ⟨Nat.le_of_ble_eq_true rfl, Nat.le_of_ble_eq_true rfl⟩ hP hD hS [] rfl rfl rfl rfl hl.1 (Nat.le_of_ble_eq_true rfl) ⟨Nat.zero_le _, Nat.zero_le _⟩ dX11_move_64 (fun H locs hP hD hS => ?_)
        have hP : va_P G.1 vwCl (List.flatten [wX G xx r10]) H := hP
        have hD : va_D A (List.flatten [wX G xx r10]) := hD
        refine lv_iadd hx hb dX11_move_67 ?_
        refine lv_istore (lv' := [(4, .int (r13 + r16)), (0, .ref (xx 0)), (1, .int x1), (2, .int x2), (3, .int x3)]) hx hb dX11_move_68 hl (Nat.le_of_ble_eq_true rfl) rfl (fun ls hl => ?_)
        refine lv_aload_n hx hb dX11_move_70 rfl (lv_at hl 1 rfl) ?_
        refine va_get (D := G.1) (cl := vwCl) (tys := tysG G) (ci := 11) (v := .ref (xx 8)) (C := RX11) (T := TX11) (N := 37) hx hb hts iX11 hown hG.1 hP 0 rfl rfl 7 (Nat.le_of_ble_eq_true rfl) (hts _ tw_4_104) (fun _ h9 => h9) rfl dX11_move_71 ?_
        refine lv_iconst (v := 3) hx hb dX11_move_74 li_3 ?_
        refine lv_iload_n hx hb dX11_move_75 rfl (lv_at hl 2 rfl) ?_
        refine lv_imul hx hb dX11_move_76 ?_
        refine lv_iconst (v := 1) hx hb dX11_move_77 li_1 ?_
        refine lv_iadd hx hb dX11_move_78 ?_
        refine lv_iload_n hx hb dX11_move_79 rfl (lv_at hl 3 rfl) ?_
        obtain ⟨s18, e19, h⟩ := nm_ex h
        refine va_iast hx hb hG.1 hP hD hS 5 0 rfl rfl ck12 dX11_move_80 (fun H locs hP hD hS => ?_)
        have hP : va_P G.1 vwCl (List.flatten [wX G xx s18]) H := by rw [e19]; exact hP
        have hD : va_D A (List.flatten [wX G xx s18]) := by rw [e19]; exact hD
        refine lv_aload_n hx hb dX11_move_81 rfl (lv_at hl 1 rfl) ?_
        refine va_get (D := G.1) (cl := vwCl) (tys := tysG G) (ci := 11) (v := .ref (xx 8)) (C := RX11) (T := TX11) (N := 37) hx hb hts iX11 hown hG.1 hP 0 rfl rfl 7 (Nat.le_of_ble_eq_true rfl) (hts _ tw_4_104) (fun _ h9 => h9) rfl dX11_move_82 ?_
        refine lv_iconst (v := 3) hx hb dX11_move_85 li_3 ?_
        refine lv_iload_n hx hb dX11_move_86 rfl (lv_at hl 2 rfl) ?_
        refine lv_imul hx hb dX11_move_87 ?_
        refine lv_iconst (v := 2) hx hb dX11_move_88 li_2 ?_
        refine lv_iadd hx hb dX11_move_89 ?_
        refine lv_iload_n hx hb dX11_move_90 rfl (lv_at hl 4 rfl) ?_
        obtain ⟨s20, e21, h⟩ := nm_ex h
        refine va_iast hx hb hG.1 hP hD hS 5 0 rfl rfl ck15 dX11_move_91 (fun H locs hP hD hS => ?_)
        have hP : va_P G.1 vwCl (List.flatten [wX G xx s20]) H := by rw [e21]; exact hP
        have hD : va_D A (List.flatten [wX G xx s20]) := by rw [e21]; exact hD
        refine lv_iload hx hb dX11_move_92 (lv_at hl 0 rfl) ?_
        cases h
        exact rt_i K hP hD hS dX11_move_94
      · have h := if_f c9 h
        refine lv_bipush (v := -3) hx hb dX11_move_30 lb_m3 ?_
        cases h
        exact rt_i K hP hD hS dX11_move_32
    · have h := if_t c6 h
      refine lv_bipush (v := -2) hx hb dX11_move_18 lb_m2 ?_
      cases h
      exact rt_i K hP hD hS dX11_move_20
  · have h := if_t c3 h
    refine lv_iconst (v := -1) hx hb dX11_move_8 li_m1 ?_
    cases h
    exact rt_i K hP hD hS dX11_move_9
def gbX11_take_28 (F : Nat) (v1 : Int32) (rc : Int32 → ST → Option (Int32 × ST)) (v2 : Int32) (σxx : ST) : Option (Int32 × ST) :=
  if ((3 : Int32) * (σxx.1 11)) ≤ v2 then
    some (v2, σxx)
  else
    if (v2 + (3 : Int32)) < 0 ∨ 24 ≤ (v2 + (3 : Int32)).toNatClampNeg then none else
    if v2 < 0 ∨ 24 ≤ v2.toNatClampNeg then none else
    nm (sA σxx 7 v2.toNatClampNeg (σxx.2.1 7 (v2 + (3 : Int32)).toNatClampNeg)) fun (s11 : ST) =>
    rc (v2 + 1) s11
def gX11_take_28 (F : Nat) (v1 : Int32) : Nat → Int32 → ST → Option (Int32 × ST)
  | 0, _, _ => none
  | n + 1, v2, σxx => gbX11_take_28 F v1 (gX11_take_28 F v1 n) v2 σxx
set_option maxHeartbeats 4000000 in
set_option maxRecDepth 100000 in
theorem kX11_take_28 {p : Program} {l : Launch} {e : Env} {s : State} {m : MethodId} {args : Array Value} {below : List Frame} {meth : Method} {c : Code} {A : Nat → Prop} {Q : State → Prop} {G : GP} (K : Cx p s m meth c G cX11_take RX11 3 (some .int) args A) (F : Nat) (xx : Nat → Nat) (v1 : Int32) {z : Int32 × ST} (kk : ∀ (H : Heap) (locs : List Loc) (ls : Array Slot), va_P G.1 vwCl (List.flatten [wX G xx z.2]) H → va_D A (List.flatten [wX G xx z.2]) → va_S A s.heap H locs → lv_has ls 3 [(0, .ref (xx 0)), (1, .int v1), (2, .int z.1)] → W p l e (RM 3) s m args below meth c H locs 0 0 Q (F0 m 58 ls [])) :
    ∀ (n : Nat) (v2 : Int32) (σxx : ST) (H : Heap) (locs : List Loc) (ls : Array Slot), va_P G.1 vwCl (List.flatten [wX G xx σxx]) H → va_D A (List.flatten [wX G xx σxx]) → va_S A s.heap H locs → lv_has ls 3 [(0, .ref (xx 0)), (1, .int v1), (2, .int v2)] → gX11_take_28 F v1 n v2 σxx = some z → W p l e (RM 3) s m args below meth c H locs 0 0 Q (F0 m 28 ls []) := by
  obtain ⟨hx, hb, hr, hml, hts, hown, hlocks, hA, hG⟩ := id K
  intro n
  induction n with
  | zero =>
    intro v2 σxx H locs ls hP hD hS hl h
    have h : none = some z := h
    cases h
  | succ n ih =>
    intro v2 σxx H locs ls hP hD hS hl h
    have h : gbX11_take_28 F v1 (gX11_take_28 F v1 n) v2 σxx = some z := h
    unfold gbX11_take_28 at h
    refine lv_iload_n hx hb dX11_take_28 rfl (lv_at hl 2 rfl) ?_
    refine lv_iconst (v := 3) hx hb dX11_take_29 li_3 ?_
    refine lv_aload_n hx hb dX11_take_30 rfl (lv_at hl 0 rfl) ?_
    refine va_get (D := G.1) (cl := vwCl) (tys := tysG G) (ci := 11) (v := .int (σxx.1 11)) (C := RX11) (T := TX11) (N := 37) hx hb hts iX11 hown hG.1 hP 0 rfl rfl 11 (Nat.le_of_ble_eq_true rfl) (hts _ tw_4_108) (fun _ h9 => h9) rfl dX11_take_31 ?_
    refine lv_imul hx hb dX11_take_34 ?_
    refine lv_icmp_ge (tgt := 58) hx hb dX11_take_35 (by decide) (fun c8 => ?_) (fun c8 => ?_)
    · have h := if_t c8 h
      cases h
      exact kk _ _ _ hP hD hS (lv_sub hl [0, 1, 2] rfl)
    · have h := if_f c8 h
      refine lv_aload_n hx hb dX11_take_38 rfl (lv_at hl 0 rfl) ?_
      refine va_get (D := G.1) (cl := vwCl) (tys := tysG G) (ci := 11) (v := .ref (xx 8)) (C := RX11) (T := TX11) (N := 37) hx hb hts iX11 hown hG.1 hP 0 rfl rfl 7 (Nat.le_of_ble_eq_true rfl) (hts _ tw_4_104) (fun _ h9 => h9) rfl dX11_take_39 ?_
      refine lv_iload_n hx hb dX11_take_42 rfl (lv_at hl 2 rfl) ?_
      refine lv_aload_n hx hb dX11_take_43 rfl (lv_at hl 0 rfl) ?_
      refine va_get (D := G.1) (cl := vwCl) (tys := tysG G) (ci := 11) (v := .ref (xx 8)) (C := RX11) (T := TX11) (N := 37) hx hb hts iX11 hown hG.1 hP 0 rfl rfl 7 (Nat.le_of_ble_eq_true rfl) (hts _ tw_4_104) (fun _ h9 => h9) rfl dX11_take_44 ?_
      refine lv_iload_n hx hb dX11_take_47 rfl (lv_at hl 2 rfl) ?_
      refine lv_iconst (v := 3) hx hb dX11_take_48 li_3 ?_
      refine lv_iadd hx hb dX11_take_49 ?_
      obtain ⟨ck9, h⟩ := ck h
      refine va_iald hx hb hG.1 hP 5 0 rfl rfl ck9 dX11_take_50 ?_
      obtain ⟨ck10, h⟩ := ck h
      obtain ⟨s11, e12, h⟩ := nm_ex h
      refine va_iast hx hb hG.1 hP hD hS 5 0 rfl rfl ck10 dX11_take_51 (fun H locs hP hD hS => ?_)
      have hP : va_P G.1 vwCl (List.flatten [wX G xx s11]) H := by rw [e12]; exact hP
      have hD : va_D A (List.flatten [wX G xx s11]) := by rw [e12]; exact hD
      refine lv_iinc (v := v2 + 1) (lv' := [(2, .int (v2 + 1)), (0, .ref (xx 0)), (1, .int v1)]) hx hb dX11_take_52 hl (k := 2) rfl (by rw [li_1]) (Nat.le_of_ble_eq_true rfl) rfl (fun ls hl => ?_)
      refine lv_goto (tgt := 28) hx hb dX11_take_55 (by decide) ?_
      exact ih (v2 + 1) s11 _ _ _ hP hD hS (lv_sub hl [1, 2, 0] rfl) h
def fX11_take (F : Nat) (σxx : ST) (x1 : Int32) : Option (Int32 × ST) :=
  (fX11_isBody F σxx x1).bind fun r1 =>
  if r1 = 0 then
    some ((-1 : Int32), σxx)
  else
    (fX11_keepAct F σxx).bind fun r4 =>
    nm (sI r4 11 ((r4.1 11) - (1 : Int32))) fun (s6 : ST) =>
    (gX11_take_28 F x1 F ((3 : Int32) * x1) s6).bind fun z13 =>
      some (z13.2.1 11, z13.2)
theorem cdX11_take : CallD yX11_take 1 := by decide +kernel
set_option maxHeartbeats 4000000 in
set_option maxRecDepth 100000 in
theorem mX11_take (l : Launch) (G : GP) (F : Nat) (xx : Nat → Nat) (σxx : ST) (x1 : Int32) {r : Int32 × ST} (h : fX11_take F σxx x1 = some r) : CC l G yX11_take cX11_take 3 (some .int) 3 [.ref (xx 0), .int x1] (List.flatten [wX G xx σxx]) (List.flatten [wX G xx r.2]) (some (.int r.1)) := by
  refine CC.of (by decide) (Nat.le_of_ble_eq_true rfl) ?_
  intro p e s m below meth c A K hP hD hS ls hl
  obtain ⟨hx, hb, hr, hml, hts, hown, hlocks, hA, hG⟩ := id K
  have hl : lv_has ls 3 [(0, .ref (xx 0)), (1, .int x1)] := hl
  unfold fX11_take at h
  refine lv_aload_n hx hb dX11_take_0 rfl (lv_at hl 0 rfl) ?_
  refine lv_iload_n hx hb dX11_take_1 rfl (lv_at hl 1 rfl) ?_
  obtain ⟨r1, hc2, h⟩ := bd_ex h
  refine sl_V (q0 := 0) (ci := 11) (C := RX11) K (mX11_isBody l G F xx σxx x1 hc2) tw_5_37 tw_1_12 tw_5_36 tw_0_8 tw_5_34 cdX11_isBody ⟨Nat.le_of_ble_eq_true rfl, Nat.le_of_ble_eq_true rfl⟩ hP hD hS [0] rfl rfl rfl rfl rfl rfl rfl hl.1 (Nat.le_of_ble_eq_true rfl) ⟨Nat.zero_le _, Nat.zero_le _⟩ dX11_take_2 (fun H locs hP hD hS => ?_)
  have hP : va_P G.1 vwCl (List.flatten [wX G xx σxx]) H := hP
  have hD : va_D A (List.flatten [wX G xx σxx]) := hD
  refine lv_if_ne (tgt := 10) hx hb dX11_take_5 (by decide) (fun c3 => ?_) (fun c3 => ?_)
  · have h := if_f c3 h
    refine lv_aload_n hx hb dX11_take_10 rfl (lv_at hl 0 rfl) ?_
    obtain ⟨r4, hc5, h⟩ := bd_ex h
    refine sl_V (q0 := 0) (ci := 11) (C := RX11) K (mX11_keepAct l G F xx σxx hc5) tw_5_69 tw_1_12 tw_5_68 tw_0_11 tw_5_66 cdX11_keepAct ⟨Nat.le_of_ble_eq_true rfl, Nat.le_of_ble_eq_true rfl⟩ hP hD hS [0] rfl rfl rfl rfl rfl rfl rfl hl.1 (Nat.le_of_ble_eq_true rfl) ⟨Nat.zero_le _, Nat.zero_le _⟩ dX11_take_11 (fun H locs hP hD hS => ?_)
    have hP : va_P G.1 vwCl (List.flatten [wX G xx r4]) H := hP
    have hD : va_D A (List.flatten [wX G xx r4]) := hD
    refine lv_aload_n hx hb dX11_take_14 rfl (lv_at hl 0 rfl) ?_
    refine lv_dup hx hb dX11_take_15 rfl ?_
    refine va_get (D := G.1) (cl := vwCl) (tys := tysG G) (ci := 11) (v := .int (r4.1 11)) (C := RX11) (T := TX11) (N := 37) hx hb hts iX11 hown hG.1 hP 0 rfl rfl 11 (Nat.le_of_ble_eq_true rfl) (hts _ tw_4_108) (fun _ h9 => h9) rfl dX11_take_16 ?_
    refine lv_iconst (v := 1) hx hb dX11_take_19 li_1 ?_
    refine lv_isub hx hb dX11_take_20 ?_
    obtain ⟨s6, e7, h⟩ := nm_ex h
    refine va_put (D := G.1) (cl := vwCl) (tys := tysG G) (ci := 11) (v := .int ((r4.1 11) - (1 : Int32))) (ty := .int) (C := RX11) (T := TX11) (N := 37) hx hb hts iX11 tyX11 tyX11_ok nmX11 hown hG.1 hP hD hS 0 rfl rfl 11 (Nat.le_of_ble_eq_true rfl) (hts _ tw_4_108) (fun _ h9 => h9) rfl (by decide +kernel) rfl rfl (Nat.le_of_ble_eq_true rfl) dX11_take_21 (fun H locs hP hD hS => ?_)
    have hP : va_P G.1 vwCl (List.flatten [wX G xx s6]) H := by rw [e7]; exact hP
    have hD : va_D A (List.flatten [wX G xx s6]) := by rw [e7]; exact hD
    refine lv_iconst (v := 3) hx hb dX11_take_24 li_3 ?_
    refine lv_iload_n hx hb dX11_take_25 rfl (lv_at hl 1 rfl) ?_
    refine lv_imul hx hb dX11_take_26 ?_
    refine lv_istore_n (lv' := [(2, .int ((3 : Int32) * x1)), (0, .ref (xx 0)), (1, .int x1)]) hx hb dX11_take_27 rfl hl (Nat.le_of_ble_eq_true rfl) rfl (fun ls hl => ?_)
    obtain ⟨z13, hz14, h⟩ := bd_ex h
    refine kX11_take_28 K F xx x1 (fun H locs ls hP hD hS hl => ?_) F ((3 : Int32) * x1) s6 _ _ _ hP hD hS (lv_sub hl [1, 2, 0] rfl) hz14
    refine lv_aload_n hx hb dX11_take_58 rfl (lv_at hl 0 rfl) ?_
    refine va_get (D := G.1) (cl := vwCl) (tys := tysG G) (ci := 11) (v := .int (z13.2.1 11)) (C := RX11) (T := TX11) (N := 37) hx hb hts iX11 hown hG.1 hP 0 rfl rfl 11 (Nat.le_of_ble_eq_true rfl) (hts _ tw_4_108) (fun _ h9 => h9) rfl dX11_take_59 ?_
    cases h
    exact rt_i K hP hD hS dX11_take_62
  · have h := if_t c3 h
    refine lv_iconst (v := -1) hx hb dX11_take_8 li_m1 ?_
    cases h
    exact rt_i K hP hD hS dX11_take_9
def gbX11_back_36 (F : Nat)  (rc : Int32 → ST → Option (Int32 × ST)) (v1 : Int32) (σxx : ST) : Option (Int32 × ST) :=
  if (24 : Int32) ≤ v1 then
    some (v1, σxx)
  else
    if (((25 : Int32) * (σxx.1 20)) + v1) < 0 ∨ 400 ≤ (((25 : Int32) * (σxx.1 20)) + v1).toNatClampNeg then none else
    if v1 < 0 ∨ 24 ≤ v1.toNatClampNeg then none else
    nm (sA σxx 7 v1.toNatClampNeg (σxx.2.1 21 (((25 : Int32) * (σxx.1 20)) + v1).toNatClampNeg)) fun (s9 : ST) =>
    rc (v1 + 1) s9
def gX11_back_36 (F : Nat)  : Nat → Int32 → ST → Option (Int32 × ST)
  | 0, _, _ => none
  | n + 1, v1, σxx => gbX11_back_36 F  (gX11_back_36 F  n) v1 σxx
set_option maxHeartbeats 4000000 in
set_option maxRecDepth 100000 in
theorem kX11_back_36 {p : Program} {l : Launch} {e : Env} {s : State} {m : MethodId} {args : Array Value} {below : List Frame} {meth : Method} {c : Code} {A : Nat → Prop} {Q : State → Prop} {G : GP} (K : Cx p s m meth c G cX11_back RX11 2 (some .int) args A) (F : Nat) (xx : Nat → Nat)  {z : Int32 × ST} (kk : ∀ (H : Heap) (locs : List Loc) (ls : Array Slot), va_P G.1 vwCl (List.flatten [wX G xx z.2]) H → va_D A (List.flatten [wX G xx z.2]) → va_S A s.heap H locs → lv_has ls 2 [(0, .ref (xx 0)), (1, .int z.1)] → W p l e (RM 1) s m args below meth c H locs 0 0 Q (F0 m 68 ls [])) :
    ∀ (n : Nat) (v1 : Int32) (σxx : ST) (H : Heap) (locs : List Loc) (ls : Array Slot), va_P G.1 vwCl (List.flatten [wX G xx σxx]) H → va_D A (List.flatten [wX G xx σxx]) → va_S A s.heap H locs → lv_has ls 2 [(0, .ref (xx 0)), (1, .int v1)] → gX11_back_36 F  n v1 σxx = some z → W p l e (RM 1) s m args below meth c H locs 0 0 Q (F0 m 36 ls []) := by
  obtain ⟨hx, hb, hr, hml, hts, hown, hlocks, hA, hG⟩ := id K
  intro n
  induction n with
  | zero =>
    intro v1 σxx H locs ls hP hD hS hl h
    have h : none = some z := h
    cases h
  | succ n ih =>
    intro v1 σxx H locs ls hP hD hS hl h
    have h : gbX11_back_36 F  (gX11_back_36 F  n) v1 σxx = some z := h
    unfold gbX11_back_36 at h
    refine lv_iload_n hx hb dX11_back_36 rfl (lv_at hl 1 rfl) ?_
    refine lv_bipush (v := 24) hx hb dX11_back_37 lb_24 ?_
    refine lv_icmp_ge (tgt := 68) hx hb dX11_back_39 (by decide) (fun c6 => ?_) (fun c6 => ?_)
    · have h := if_t c6 h
      cases h
      exact kk _ _ _ hP hD hS (lv_sub hl [0, 1] rfl)
    · have h := if_f c6 h
      refine lv_aload_n hx hb dX11_back_42 rfl (lv_at hl 0 rfl) ?_
      refine va_get (D := G.1) (cl := vwCl) (tys := tysG G) (ci := 11) (v := .ref (xx 8)) (C := RX11) (T := TX11) (N := 37) hx hb hts iX11 hown hG.1 hP 0 rfl rfl 7 (Nat.le_of_ble_eq_true rfl) (hts _ tw_4_104) (fun _ h9 => h9) rfl dX11_back_43 ?_
      refine lv_iload_n hx hb dX11_back_46 rfl (lv_at hl 1 rfl) ?_
      refine lv_aload_n hx hb dX11_back_47 rfl (lv_at hl 0 rfl) ?_
      refine va_get (D := G.1) (cl := vwCl) (tys := tysG G) (ci := 11) (v := .ref (xx 22)) (C := RX11) (T := TX11) (N := 37) hx hb hts iX11 hown hG.1 hP 0 rfl rfl 21 (Nat.le_of_ble_eq_true rfl) (hts _ tw_4_118) (fun _ h9 => h9) rfl dX11_back_48 ?_
      refine lv_bipush (v := 25) hx hb dX11_back_51 lb_25 ?_
      refine lv_aload_n hx hb dX11_back_53 rfl (lv_at hl 0 rfl) ?_
      refine va_get (D := G.1) (cl := vwCl) (tys := tysG G) (ci := 11) (v := .int (σxx.1 20)) (C := RX11) (T := TX11) (N := 37) hx hb hts iX11 hown hG.1 hP 0 rfl rfl 20 (Nat.le_of_ble_eq_true rfl) (hts _ tw_4_117) (fun _ h9 => h9) rfl dX11_back_54 ?_
      refine lv_imul hx hb dX11_back_57 ?_
      refine lv_iload_n hx hb dX11_back_58 rfl (lv_at hl 1 rfl) ?_
      refine lv_iadd hx hb dX11_back_59 ?_
      obtain ⟨ck7, h⟩ := ck h
      refine va_iald hx hb hG.1 hP 10 0 rfl rfl ck7 dX11_back_60 ?_
      obtain ⟨ck8, h⟩ := ck h
      obtain ⟨s9, e10, h⟩ := nm_ex h
      refine va_iast hx hb hG.1 hP hD hS 5 0 rfl rfl ck8 dX11_back_61 (fun H locs hP hD hS => ?_)
      have hP : va_P G.1 vwCl (List.flatten [wX G xx s9]) H := by rw [e10]; exact hP
      have hD : va_D A (List.flatten [wX G xx s9]) := by rw [e10]; exact hD
      refine lv_iinc (v := v1 + 1) (lv' := [(1, .int (v1 + 1)), (0, .ref (xx 0))]) hx hb dX11_back_62 hl (k := 1) rfl (by rw [li_1]) (Nat.le_of_ble_eq_true rfl) rfl (fun ls hl => ?_)
      refine lv_goto (tgt := 36) hx hb dX11_back_65 (by decide) ?_
      exact ih (v1 + 1) s9 _ _ _ hP hD hS (lv_sub hl [1, 0] rfl) h
def fX11_back (F : Nat) (σxx : ST)  : Option (Int32 × ST) :=
  if (σxx.1 19) = 0 then
    some ((-3 : Int32), σxx)
  else
    nm (sI σxx 19 ((σxx.1 19) - (1 : Int32))) fun (s2 : ST) =>
    nm (sI s2 20 (((s2.1 20) + (15 : Int32)) - ((s2.1 20) + (15 : Int32)) / (16 : Int32) * (16 : Int32))) fun (s4 : ST) =>
    (gX11_back_36 F  F (0 : Int32) s4).bind fun z11 =>
      if (((25 : Int32) * (z11.2.1 20)) + (24 : Int32)) < 0 ∨ 400 ≤ (((25 : Int32) * (z11.2.1 20)) + (24 : Int32)).toNatClampNeg then none else
      nm (sI z11.2 11 (z11.2.2.1 21 (((25 : Int32) * (z11.2.1 20)) + (24 : Int32)).toNatClampNeg)) fun (s14 : ST) =>
      some (s14.1 19, s14)
theorem cdX11_back : CallD yX11_back 0 := by decide +kernel
set_option maxHeartbeats 4000000 in
set_option maxRecDepth 100000 in
theorem mX11_back (l : Launch) (G : GP) (F : Nat) (xx : Nat → Nat) (σxx : ST)  {r : Int32 × ST} (h : fX11_back F σxx  = some r) : CC l G yX11_back cX11_back 2 (some .int) 1 [.ref (xx 0)] (List.flatten [wX G xx σxx]) (List.flatten [wX G xx r.2]) (some (.int r.1)) := by
  refine CC.of (by decide) (Nat.le_of_ble_eq_true rfl) ?_
  intro p e s m below meth c A K hP hD hS ls hl
  obtain ⟨hx, hb, hr, hml, hts, hown, hlocks, hA, hG⟩ := id K
  have hl : lv_has ls 2 [(0, .ref (xx 0))] := hl
  unfold fX11_back at h
  refine lv_aload_n hx hb dX11_back_0 rfl (lv_at hl 0 rfl) ?_
  refine va_get (D := G.1) (cl := vwCl) (tys := tysG G) (ci := 11) (v := .int (σxx.1 19)) (C := RX11) (T := TX11) (N := 37) hx hb hts iX11 hown hG.1 hP 0 rfl rfl 19 (Nat.le_of_ble_eq_true rfl) (hts _ tw_4_116) (fun _ h9 => h9) rfl dX11_back_1 ?_
  refine lv_if_ne (tgt := 10) hx hb dX11_back_4 (by decide) (fun c1 => ?_) (fun c1 => ?_)
  · have h := if_f c1 h
    refine lv_aload_n hx hb dX11_back_10 rfl (lv_at hl 0 rfl) ?_
    refine lv_dup hx hb dX11_back_11 rfl ?_
    refine va_get (D := G.1) (cl := vwCl) (tys := tysG G) (ci := 11) (v := .int (σxx.1 19)) (C := RX11) (T := TX11) (N := 37) hx hb hts iX11 hown hG.1 hP 0 rfl rfl 19 (Nat.le_of_ble_eq_true rfl) (hts _ tw_4_116) (fun _ h9 => h9) rfl dX11_back_12 ?_
    refine lv_iconst (v := 1) hx hb dX11_back_15 li_1 ?_
    refine lv_isub hx hb dX11_back_16 ?_
    obtain ⟨s2, e3, h⟩ := nm_ex h
    refine va_put (D := G.1) (cl := vwCl) (tys := tysG G) (ci := 11) (v := .int ((σxx.1 19) - (1 : Int32))) (ty := .int) (C := RX11) (T := TX11) (N := 37) hx hb hts iX11 tyX11 tyX11_ok nmX11 hown hG.1 hP hD hS 0 rfl rfl 19 (Nat.le_of_ble_eq_true rfl) (hts _ tw_4_116) (fun _ h9 => h9) rfl (by decide +kernel) rfl rfl (Nat.le_of_ble_eq_true rfl) dX11_back_17 (fun H locs hP hD hS => ?_)
    have hP : va_P G.1 vwCl (List.flatten [wX G xx s2]) H := by rw [e3]; exact hP
    have hD : va_D A (List.flatten [wX G xx s2]) := by rw [e3]; exact hD
    refine lv_aload_n hx hb dX11_back_20 rfl (lv_at hl 0 rfl) ?_
    refine lv_aload_n hx hb dX11_back_21 rfl (lv_at hl 0 rfl) ?_
    refine va_get (D := G.1) (cl := vwCl) (tys := tysG G) (ci := 11) (v := .int (s2.1 20)) (C := RX11) (T := TX11) (N := 37) hx hb hts iX11 hown hG.1 hP 0 rfl rfl 20 (Nat.le_of_ble_eq_true rfl) (hts _ tw_4_117) (fun _ h9 => h9) rfl dX11_back_22 ?_
    refine lv_bipush (v := 15) hx hb dX11_back_25 lb_15 ?_
    refine lv_iadd hx hb dX11_back_27 ?_
    refine lv_bipush (v := 16) hx hb dX11_back_28 lb_16 ?_
    refine lv_irem hx hb dX11_back_30 (by decide) ?_
    obtain ⟨s4, e5, h⟩ := nm_ex h
    refine va_put (D := G.1) (cl := vwCl) (tys := tysG G) (ci := 11) (v := .int (((s2.1 20) + (15 : Int32)) - ((s2.1 20) + (15 : Int32)) / (16 : Int32) * (16 : Int32))) (ty := .int) (C := RX11) (T := TX11) (N := 37) hx hb hts iX11 tyX11 tyX11_ok nmX11 hown hG.1 hP hD hS 0 rfl rfl 20 (Nat.le_of_ble_eq_true rfl) (hts _ tw_4_117) (fun _ h9 => h9) rfl (by decide +kernel) rfl rfl (Nat.le_of_ble_eq_true rfl) dX11_back_31 (fun H locs hP hD hS => ?_)
    have hP : va_P G.1 vwCl (List.flatten [wX G xx s4]) H := by rw [e5]; exact hP
    have hD : va_D A (List.flatten [wX G xx s4]) := by rw [e5]; exact hD
    refine lv_iconst (v := 0) hx hb dX11_back_34 li_0 ?_
    refine lv_istore_n (lv' := [(1, .int (0 : Int32)), (0, .ref (xx 0))]) hx hb dX11_back_35 rfl hl (Nat.le_of_ble_eq_true rfl) rfl (fun ls hl => ?_)
    obtain ⟨z11, hz12, h⟩ := bd_ex h
    refine kX11_back_36 K F xx  (fun H locs ls hP hD hS hl => ?_) F (0 : Int32) s4 _ _ _ hP hD hS (lv_sub hl [1, 0] rfl) hz12
    refine lv_aload_n hx hb dX11_back_68 rfl (lv_at hl 0 rfl) ?_
    refine lv_aload_n hx hb dX11_back_69 rfl (lv_at hl 0 rfl) ?_
    refine va_get (D := G.1) (cl := vwCl) (tys := tysG G) (ci := 11) (v := .ref (xx 22)) (C := RX11) (T := TX11) (N := 37) hx hb hts iX11 hown hG.1 hP 0 rfl rfl 21 (Nat.le_of_ble_eq_true rfl) (hts _ tw_4_118) (fun _ h9 => h9) rfl dX11_back_70 ?_
    refine lv_bipush (v := 25) hx hb dX11_back_73 lb_25 ?_
    refine lv_aload_n hx hb dX11_back_75 rfl (lv_at hl 0 rfl) ?_
    refine va_get (D := G.1) (cl := vwCl) (tys := tysG G) (ci := 11) (v := .int (z11.2.1 20)) (C := RX11) (T := TX11) (N := 37) hx hb hts iX11 hown hG.1 hP 0 rfl rfl 20 (Nat.le_of_ble_eq_true rfl) (hts _ tw_4_117) (fun _ h9 => h9) rfl dX11_back_76 ?_
    refine lv_imul hx hb dX11_back_79 ?_
    refine lv_bipush (v := 24) hx hb dX11_back_80 lb_24 ?_
    refine lv_iadd hx hb dX11_back_82 ?_
    obtain ⟨ck13, h⟩ := ck h
    refine va_iald hx hb hG.1 hP 10 0 rfl rfl ck13 dX11_back_83 ?_
    obtain ⟨s14, e15, h⟩ := nm_ex h
    refine va_put (D := G.1) (cl := vwCl) (tys := tysG G) (ci := 11) (v := .int (z11.2.2.1 21 (((25 : Int32) * (z11.2.1 20)) + (24 : Int32)).toNatClampNeg)) (ty := .int) (C := RX11) (T := TX11) (N := 37) hx hb hts iX11 tyX11 tyX11_ok nmX11 hown hG.1 hP hD hS 0 rfl rfl 11 (Nat.le_of_ble_eq_true rfl) (hts _ tw_4_108) (fun _ h9 => h9) rfl (by decide +kernel) rfl rfl (Nat.le_of_ble_eq_true rfl) dX11_back_84 (fun H locs hP hD hS => ?_)
    have hP : va_P G.1 vwCl (List.flatten [wX G xx s14]) H := by rw [e15]; exact hP
    have hD : va_D A (List.flatten [wX G xx s14]) := by rw [e15]; exact hD
    refine lv_aload_n hx hb dX11_back_87 rfl (lv_at hl 0 rfl) ?_
    refine va_get (D := G.1) (cl := vwCl) (tys := tysG G) (ci := 11) (v := .int (s14.1 19)) (C := RX11) (T := TX11) (N := 37) hx hb hts iX11 hown hG.1 hP 0 rfl rfl 19 (Nat.le_of_ble_eq_true rfl) (hts _ tw_4_116) (fun _ h9 => h9) rfl dX11_back_88 ?_
    cases h
    exact rt_i K hP hD hS dX11_back_91
  · have h := if_t c1 h
    refine lv_bipush (v := -3) hx hb dX11_back_7 lb_m3 ?_
    cases h
    exact rt_i K hP hD hS dX11_back_9
def gbX11_lit_21 (F : Nat) (σxx : ST) (v1 : Int32) (v2 : Int32) (rc : Int32 → Int32 → Option (Int32 × Int32)) (v3 : Int32) (v4 : Int32) : Option (Int32 × Int32) :=
  if (σxx.1 13) ≤ v4 then
    some (v3, v4)
  else
    if (((4 : Int32) * v4) + (2 : Int32)) < 0 ∨ 16 ≤ (((4 : Int32) * v4) + (2 : Int32)).toNatClampNeg then none else
    if v1 < (σxx.2.1 9 (((4 : Int32) * v4) + (2 : Int32)).toNatClampNeg) then
      rc (v3 &&& (-1 : Int32)) (v4 + 1)
    else
      if (((4 : Int32) * v4) + (3 : Int32)) < 0 ∨ 16 ≤ (((4 : Int32) * v4) + (3 : Int32)).toNatClampNeg then none else
      if (σxx.2.1 9 (((4 : Int32) * v4) + (3 : Int32)).toNatClampNeg) < v1 then
        rc (v3 &&& (-1 : Int32)) (v4 + 1)
      else
        if ((4 : Int32) * v4) < 0 ∨ 16 ≤ ((4 : Int32) * v4).toNatClampNeg then none else
        if (((4 : Int32) * v4) + (1 : Int32)) < 0 ∨ 16 ≤ (((4 : Int32) * v4) + (1 : Int32)).toNatClampNeg then none else
        (fX11_bits F (σxx.2.1 9 ((4 : Int32) * v4).toNatClampNeg) (σxx.2.1 9 (((4 : Int32) * v4) + (1 : Int32)).toNatClampNeg)).bind fun r10 =>
        rc (v3 &&& (r10 ^^^ (-1 : Int32))) (v4 + 1)
def gX11_lit_21 (F : Nat) (σxx : ST) (v1 : Int32) (v2 : Int32) : Nat → Int32 → Int32 → Option (Int32 × Int32)
  | 0, _, _ => none
  | n + 1, v3, v4 => gbX11_lit_21 F σxx v1 v2 (gX11_lit_21 F σxx v1 v2 n) v3 v4
set_option maxHeartbeats 4000000 in
set_option maxRecDepth 100000 in
theorem kX11_lit_21 {p : Program} {l : Launch} {e : Env} {s : State} {m : MethodId} {args : Array Value} {below : List Frame} {meth : Method} {c : Code} {A : Nat → Prop} {Q : State → Prop} {G : GP} (K : Cx p s m meth c G cX11_lit RX11 6 (some .int) args A) (F : Nat) (xx : Nat → Nat) (σxx : ST) (v1 : Int32) (v2 : Int32) {z : Int32 × Int32} (kk : ∀ (H : Heap) (locs : List Loc) (ls : Array Slot), va_P G.1 vwCl (List.flatten [wX G xx σxx]) H → va_D A (List.flatten [wX G xx σxx]) → va_S A s.heap H locs → lv_has ls 6 [(0, .ref (xx 0)), (1, .int v1), (2, .int v2), (3, .int z.1), (4, .int z.2)] → W p l e (RM 2) s m args below meth c H locs 0 0 Q (F0 m 110 ls [])) :
    ∀ (n : Nat) (v3 : Int32) (v4 : Int32) (H : Heap) (locs : List Loc) (ls : Array Slot), va_P G.1 vwCl (List.flatten [wX G xx σxx]) H → va_D A (List.flatten [wX G xx σxx]) → va_S A s.heap H locs → lv_has ls 6 [(0, .ref (xx 0)), (1, .int v1), (2, .int v2), (3, .int v3), (4, .int v4)] → gX11_lit_21 F σxx v1 v2 n v3 v4 = some z → W p l e (RM 2) s m args below meth c H locs 0 0 Q (F0 m 21 ls []) := by
  obtain ⟨hx, hb, hr, hml, hts, hown, hlocks, hA, hG⟩ := id K
  intro n
  induction n with
  | zero =>
    intro v3 v4 H locs ls hP hD hS hl h
    have h : none = some z := h
    cases h
  | succ n ih =>
    intro v3 v4 H locs ls hP hD hS hl h
    have h : gbX11_lit_21 F σxx v1 v2 (gX11_lit_21 F σxx v1 v2 n) v3 v4 = some z := h
    unfold gbX11_lit_21 at h
    refine lv_iload hx hb dX11_lit_21 (lv_at hl 4 rfl) ?_
    refine lv_aload_n hx hb dX11_lit_23 rfl (lv_at hl 0 rfl) ?_
    refine va_get (D := G.1) (cl := vwCl) (tys := tysG G) (ci := 11) (v := .int (σxx.1 13)) (C := RX11) (T := TX11) (N := 37) hx hb hts iX11 hown hG.1 hP 0 rfl rfl 13 (Nat.le_of_ble_eq_true rfl) (hts _ tw_4_110) (fun _ h9 => h9) rfl dX11_lit_24 ?_
    refine lv_icmp_ge (tgt := 110) hx hb dX11_lit_27 (by decide) (fun c3 => ?_) (fun c3 => ?_)
    · have h := if_t c3 h
      cases h
      exact kk _ _ _ hP hD hS (lv_sub hl [0, 1, 2, 3, 4] rfl)
    · have h := if_f c3 h
      refine lv_iload_n hx hb dX11_lit_30 rfl (lv_at hl 1 rfl) ?_
      refine lv_aload_n hx hb dX11_lit_31 rfl (lv_at hl 0 rfl) ?_
      refine va_get (D := G.1) (cl := vwCl) (tys := tysG G) (ci := 11) (v := .ref (xx 10)) (C := RX11) (T := TX11) (N := 37) hx hb hts iX11 hown hG.1 hP 0 rfl rfl 9 (Nat.le_of_ble_eq_true rfl) (hts _ tw_4_106) (fun _ h9 => h9) rfl dX11_lit_32 ?_
      refine lv_iconst (v := 4) hx hb dX11_lit_35 li_4 ?_
      refine lv_iload hx hb dX11_lit_36 (lv_at hl 4 rfl) ?_
      refine lv_imul hx hb dX11_lit_38 ?_
      refine lv_iconst (v := 2) hx hb dX11_lit_39 li_2 ?_
      refine lv_iadd hx hb dX11_lit_40 ?_
      obtain ⟨ck4, h⟩ := ck h
      refine va_iald hx hb hG.1 hP 7 0 rfl rfl ck4 dX11_lit_41 ?_
      refine lv_icmp_lt (tgt := 64) hx hb dX11_lit_42 (by decide) (fun c5 => ?_) (fun c5 => ?_)
      · have h := if_t c5 h
        refine lv_iconst (v := 0) hx hb dX11_lit_64 li_0 ?_
        refine lv_istore (lv' := [(5, .int (0 : Int32)), (0, .ref (xx 0)), (1, .int v1), (2, .int v2), (3, .int v3), (4, .int v4)]) hx hb dX11_lit_65 hl (Nat.le_of_ble_eq_true rfl) rfl (fun ls hl => ?_)
        refine lv_iload_n hx hb dX11_lit_67 rfl (lv_at hl 4 rfl) ?_
        refine lv_iload hx hb dX11_lit_68 (lv_at hl 0 rfl) ?_
        refine lv_if_eq (tgt := 101) hx hb dX11_lit_70 (by decide) (fun c9 => ?_) (fun c9 => absurd c9 (by decide))
        refine lv_iconst (v := -1) hx hb dX11_lit_101 li_m1 ?_
        refine lv_iand hx hb dX11_lit_102 ?_
        refine lv_istore_n (lv' := [(3, .int (v3 &&& (-1 : Int32))), (5, .int (0 : Int32)), (0, .ref (xx 0)), (1, .int v1), (2, .int v2), (4, .int v4)]) hx hb dX11_lit_103 rfl hl (Nat.le_of_ble_eq_true rfl) rfl (fun ls hl => ?_)
        refine lv_iinc (v := v4 + 1) (lv' := [(4, .int (v4 + 1)), (3, .int (v3 &&& (-1 : Int32))), (5, .int (0 : Int32)), (0, .ref (xx 0)), (1, .int v1), (2, .int v2)]) hx hb dX11_lit_104 hl (k := 5) rfl (by rw [li_1]) (Nat.le_of_ble_eq_true rfl) rfl (fun ls hl => ?_)
        refine lv_goto (tgt := 21) hx hb dX11_lit_107 (by decide) ?_
        exact ih (v3 &&& (-1 : Int32)) (v4 + 1) _ _ _ hP hD hS (lv_sub hl [3, 4, 5, 1, 0] rfl) h
      · have h := if_f c5 h
        refine lv_iload_n hx hb dX11_lit_45 rfl (lv_at hl 1 rfl) ?_
        refine lv_aload_n hx hb dX11_lit_46 rfl (lv_at hl 0 rfl) ?_
        refine va_get (D := G.1) (cl := vwCl) (tys := tysG G) (ci := 11) (v := .ref (xx 10)) (C := RX11) (T := TX11) (N := 37) hx hb hts iX11 hown hG.1 hP 0 rfl rfl 9 (Nat.le_of_ble_eq_true rfl) (hts _ tw_4_106) (fun _ h9 => h9) rfl dX11_lit_47 ?_
        refine lv_iconst (v := 4) hx hb dX11_lit_50 li_4 ?_
        refine lv_iload hx hb dX11_lit_51 (lv_at hl 4 rfl) ?_
        refine lv_imul hx hb dX11_lit_53 ?_
        refine lv_iconst (v := 3) hx hb dX11_lit_54 li_3 ?_
        refine lv_iadd hx hb dX11_lit_55 ?_
        obtain ⟨ck6, h⟩ := ck h
        refine va_iald hx hb hG.1 hP 7 0 rfl rfl ck6 dX11_lit_56 ?_
        refine lv_icmp_gt (tgt := 64) hx hb dX11_lit_57 (by decide) (fun c7 => ?_) (fun c7 => ?_)
        · have h := if_t c7 h
          refine lv_iconst (v := 0) hx hb dX11_lit_64 li_0 ?_
          refine lv_istore (lv' := [(5, .int (0 : Int32)), (0, .ref (xx 0)), (1, .int v1), (2, .int v2), (3, .int v3), (4, .int v4)]) hx hb dX11_lit_65 hl (Nat.le_of_ble_eq_true rfl) rfl (fun ls hl => ?_)
          refine lv_iload_n hx hb dX11_lit_67 rfl (lv_at hl 4 rfl) ?_
          refine lv_iload hx hb dX11_lit_68 (lv_at hl 0 rfl) ?_
          refine lv_if_eq (tgt := 101) hx hb dX11_lit_70 (by decide) (fun c9 => ?_) (fun c9 => absurd c9 (by decide))
          refine lv_iconst (v := -1) hx hb dX11_lit_101 li_m1 ?_
          refine lv_iand hx hb dX11_lit_102 ?_
          refine lv_istore_n (lv' := [(3, .int (v3 &&& (-1 : Int32))), (5, .int (0 : Int32)), (0, .ref (xx 0)), (1, .int v1), (2, .int v2), (4, .int v4)]) hx hb dX11_lit_103 rfl hl (Nat.le_of_ble_eq_true rfl) rfl (fun ls hl => ?_)
          refine lv_iinc (v := v4 + 1) (lv' := [(4, .int (v4 + 1)), (3, .int (v3 &&& (-1 : Int32))), (5, .int (0 : Int32)), (0, .ref (xx 0)), (1, .int v1), (2, .int v2)]) hx hb dX11_lit_104 hl (k := 5) rfl (by rw [li_1]) (Nat.le_of_ble_eq_true rfl) rfl (fun ls hl => ?_)
          refine lv_goto (tgt := 21) hx hb dX11_lit_107 (by decide) ?_
          exact ih (v3 &&& (-1 : Int32)) (v4 + 1) _ _ _ hP hD hS (lv_sub hl [3, 4, 5, 1, 0] rfl) h
        · have h := if_f c7 h
          refine lv_iconst (v := 1) hx hb dX11_lit_60 li_1 ?_
          refine lv_goto (tgt := 65) hx hb dX11_lit_61 (by decide) ?_
          refine lv_istore (lv' := [(5, .int (1 : Int32)), (0, .ref (xx 0)), (1, .int v1), (2, .int v2), (3, .int v3), (4, .int v4)]) hx hb dX11_lit_65 hl (Nat.le_of_ble_eq_true rfl) rfl (fun ls hl => ?_)
          refine lv_iload_n hx hb dX11_lit_67 rfl (lv_at hl 4 rfl) ?_
          refine lv_iload hx hb dX11_lit_68 (lv_at hl 0 rfl) ?_
          refine lv_if_eq (tgt := 101) hx hb dX11_lit_70 (by decide) (fun c9 => absurd c9 (by decide)) (fun c9 => ?_)
          refine lv_aload_n hx hb dX11_lit_73 rfl (lv_at hl 1 rfl) ?_
          refine va_get (D := G.1) (cl := vwCl) (tys := tysG G) (ci := 11) (v := .ref (xx 10)) (C := RX11) (T := TX11) (N := 37) hx hb hts iX11 hown hG.1 hP 0 rfl rfl 9 (Nat.le_of_ble_eq_true rfl) (hts _ tw_4_106) (fun _ h9 => h9) rfl dX11_lit_74 ?_
          refine lv_iconst (v := 4) hx hb dX11_lit_77 li_4 ?_
          refine lv_iload hx hb dX11_lit_78 (lv_at hl 5 rfl) ?_
          refine lv_imul hx hb dX11_lit_80 ?_
          obtain ⟨ck8, h⟩ := ck h
          refine va_iald hx hb hG.1 hP 7 0 rfl rfl ck8 dX11_lit_81 ?_
          refine lv_aload_n hx hb dX11_lit_82 rfl (lv_at hl 1 rfl) ?_
          refine va_get (D := G.1) (cl := vwCl) (tys := tysG G) (ci := 11) (v := .ref (xx 10)) (C := RX11) (T := TX11) (N := 37) hx hb hts iX11 hown hG.1 hP 0 rfl rfl 9 (Nat.le_of_ble_eq_true rfl) (hts _ tw_4_106) (fun _ h9 => h9) rfl dX11_lit_83 ?_
          refine lv_iconst (v := 4) hx hb dX11_lit_86 li_4 ?_
          refine lv_iload hx hb dX11_lit_87 (lv_at hl 5 rfl) ?_
          refine lv_imul hx hb dX11_lit_89 ?_
          refine lv_iconst (v := 1) hx hb dX11_lit_90 li_1 ?_
          refine lv_iadd hx hb dX11_lit_91 ?_
          obtain ⟨ck9, h⟩ := ck h
          refine va_iald hx hb hG.1 hP 7 0 rfl rfl ck9 dX11_lit_92 ?_
          obtain ⟨r10, hc11, h⟩ := bd_ex h
          refine sl_S K (mX11_bits l G F (σxx.2.1 9 ((4 : Int32) * v4).toNatClampNeg) (σxx.2.1 9 (((4 : Int32) * v4) + (1 : Int32)).toNatClampNeg) hc11) tw_5_20 tw_1_12 tw_5_19 tw_5_18 cdX11_bits ⟨Nat.le_of_ble_eq_true rfl, Nat.le_of_ble_eq_true rfl⟩ hP hD hS [] rfl rfl rfl rfl hl.1 (Nat.le_of_ble_eq_true rfl) ⟨Nat.zero_le _, Nat.zero_le _⟩ dX11_lit_93 (fun H locs hP hD hS => ?_)
          have hP : va_P G.1 vwCl (List.flatten [wX G xx σxx]) H := hP
          have hD : va_D A (List.flatten [wX G xx σxx]) := hD
          refine lv_iconst (v := -1) hx hb dX11_lit_96 li_m1 ?_
          refine lv_ixor hx hb dX11_lit_97 ?_
          refine lv_goto (tgt := 102) hx hb dX11_lit_98 (by decide) ?_
          refine lv_iand hx hb dX11_lit_102 ?_
          refine lv_istore_n (lv' := [(3, .int (v3 &&& (r10 ^^^ (-1 : Int32)))), (5, .int (1 : Int32)), (0, .ref (xx 0)), (1, .int v1), (2, .int v2), (4, .int v4)]) hx hb dX11_lit_103 rfl hl (Nat.le_of_ble_eq_true rfl) rfl (fun ls hl => ?_)
          refine lv_iinc (v := v4 + 1) (lv' := [(4, .int (v4 + 1)), (3, .int (v3 &&& (r10 ^^^ (-1 : Int32)))), (5, .int (1 : Int32)), (0, .ref (xx 0)), (1, .int v1), (2, .int v2)]) hx hb dX11_lit_104 hl (k := 5) rfl (by rw [li_1]) (Nat.le_of_ble_eq_true rfl) rfl (fun ls hl => ?_)
          refine lv_goto (tgt := 21) hx hb dX11_lit_107 (by decide) ?_
          exact ih (v3 &&& (r10 ^^^ (-1 : Int32))) (v4 + 1) _ _ _ hP hD hS (lv_sub hl [3, 4, 5, 1, 0] rfl) h
def fX11_lit (F : Nat) (σxx : ST) (x1 : Int32) (x2 : Int32) : Option (Int32) :=
  if x2 < 0 ∨ 6 ≤ x2.toNatClampNeg then none else
  if x1 < (σxx.2.1 10 x2.toNatClampNeg) then
    (gX11_lit_21 F σxx x1 x2 F (0 : Int32) (0 : Int32)).bind fun z12 =>
      some z12.1
  else
    (gX11_lit_21 F σxx x1 x2 F (1023 : Int32) (0 : Int32)).bind fun z14 =>
      some z14.1
theorem cdX11_lit : CallD yX11_lit 2 := by decide +kernel
set_option maxHeartbeats 4000000 in
set_option maxRecDepth 100000 in
theorem mX11_lit (l : Launch) (G : GP) (F : Nat) (xx : Nat → Nat) (σxx : ST) (x1 : Int32) (x2 : Int32) {r : Int32} (h : fX11_lit F σxx x1 x2 = some r) : CC l G yX11_lit cX11_lit 6 (some .int) 2 [.ref (xx 0), .int x1, .int x2] (List.flatten [wX G xx σxx]) (List.flatten [wX G xx σxx]) (some (.int r)) := by
  refine CC.of (by decide) (Nat.le_of_ble_eq_true rfl) ?_
  intro p e s m below meth c A K hP hD hS ls hl
  obtain ⟨hx, hb, hr, hml, hts, hown, hlocks, hA, hG⟩ := id K
  have hl : lv_has ls 6 [(0, .ref (xx 0)), (1, .int x1), (2, .int x2)] := hl
  unfold fX11_lit at h
  refine lv_iload_n hx hb dX11_lit_0 rfl (lv_at hl 1 rfl) ?_
  refine lv_aload_n hx hb dX11_lit_1 rfl (lv_at hl 0 rfl) ?_
  refine va_get (D := G.1) (cl := vwCl) (tys := tysG G) (ci := 11) (v := .ref (xx 11)) (C := RX11) (T := TX11) (N := 37) hx hb hts iX11 hown hG.1 hP 0 rfl rfl 10 (Nat.le_of_ble_eq_true rfl) (hts _ tw_4_107) (fun _ h9 => h9) rfl dX11_lit_2 ?_
  refine lv_iload_n hx hb dX11_lit_5 rfl (lv_at hl 2 rfl) ?_
  obtain ⟨ck1, h⟩ := ck h
  refine va_iald hx hb hG.1 hP 8 0 rfl rfl ck1 dX11_lit_6 ?_
  refine lv_icmp_lt (tgt := 16) hx hb dX11_lit_7 (by decide) (fun c2 => ?_) (fun c2 => ?_)
  · have h := if_t c2 h
    refine lv_iconst (v := 0) hx hb dX11_lit_16 li_0 ?_
    refine lv_istore_n (lv' := [(3, .int (0 : Int32)), (0, .ref (xx 0)), (1, .int x1), (2, .int x2)]) hx hb dX11_lit_17 rfl hl (Nat.le_of_ble_eq_true rfl) rfl (fun ls hl => ?_)
    refine lv_iconst (v := 0) hx hb dX11_lit_18 li_0 ?_
    refine lv_istore (lv' := [(4, .int (0 : Int32)), (3, .int (0 : Int32)), (0, .ref (xx 0)), (1, .int x1), (2, .int x2)]) hx hb dX11_lit_19 hl (Nat.le_of_ble_eq_true rfl) rfl (fun ls hl => ?_)
    obtain ⟨z12, hz13, h⟩ := bd_ex h
    refine kX11_lit_21 K F xx σxx x1 x2 (fun H locs ls hP hD hS hl => ?_) F (0 : Int32) (0 : Int32) _ _ _ hP hD hS (lv_sub hl [2, 3, 4, 1, 0] rfl) hz13
    refine lv_iload_n hx hb dX11_lit_110 rfl (lv_at hl 3 rfl) ?_
    cases h
    exact rt_i K hP hD hS dX11_lit_111
  · have h := if_f c2 h
    refine lv_sipush (v := 1023) hx hb dX11_lit_10 lh_1023 ?_
    refine lv_goto (tgt := 17) hx hb dX11_lit_13 (by decide) ?_
    refine lv_istore_n (lv' := [(3, .int (1023 : Int32)), (0, .ref (xx 0)), (1, .int x1), (2, .int x2)]) hx hb dX11_lit_17 rfl hl (Nat.le_of_ble_eq_true rfl) rfl (fun ls hl => ?_)
    refine lv_iconst (v := 0) hx hb dX11_lit_18 li_0 ?_
    refine lv_istore (lv' := [(4, .int (0 : Int32)), (3, .int (1023 : Int32)), (0, .ref (xx 0)), (1, .int x1), (2, .int x2)]) hx hb dX11_lit_19 hl (Nat.le_of_ble_eq_true rfl) rfl (fun ls hl => ?_)
    obtain ⟨z14, hz15, h⟩ := bd_ex h
    refine kX11_lit_21 K F xx σxx x1 x2 (fun H locs ls hP hD hS hl => ?_) F (1023 : Int32) (0 : Int32) _ _ _ hP hD hS (lv_sub hl [2, 3, 4, 1, 0] rfl) hz15
    refine lv_iload_n hx hb dX11_lit_110 rfl (lv_at hl 3 rfl) ?_
    cases h
    exact rt_i K hP hD hS dX11_lit_111
def gbX11_darkOf_5 (F : Nat) (σxx : ST) (v1 : Int32) (v2 : Int32) (rc : Int32 → Int32 → Option (Int32 × Int32)) (v3 : Int32) (v4 : Int32) : Option (Int32 × Int32) :=
  if (σxx.1 11) ≤ v4 then
    some (v3, v4)
  else
    if (((3 : Int32) * v4) + (2 : Int32)) < 0 ∨ 24 ≤ (((3 : Int32) * v4) + (2 : Int32)).toNatClampNeg then none else
    if (σxx.2.1 7 (((3 : Int32) * v4) + (2 : Int32)).toNatClampNeg) = v2 then
      if ((3 : Int32) * v4) < 0 ∨ 24 ≤ ((3 : Int32) * v4).toNatClampNeg then none else
      (fX11_highOf F (σxx.2.1 7 ((3 : Int32) * v4).toNatClampNeg)).bind fun r5 =>
      if (((3 : Int32) * v4) + (1 : Int32)) < 0 ∨ 24 ≤ (((3 : Int32) * v4) + (1 : Int32)).toNatClampNeg then none else
      (fX11_reach F r5 (σxx.2.1 7 (((3 : Int32) * v4) + (1 : Int32)).toNatClampNeg) v1).bind fun r8 =>
      rc (v3 ||| r8) (v4 + 1)
    else
      rc (v3 ||| (0 : Int32)) (v4 + 1)
def gX11_darkOf_5 (F : Nat) (σxx : ST) (v1 : Int32) (v2 : Int32) : Nat → Int32 → Int32 → Option (Int32 × Int32)
  | 0, _, _ => none
  | n + 1, v3, v4 => gbX11_darkOf_5 F σxx v1 v2 (gX11_darkOf_5 F σxx v1 v2 n) v3 v4
set_option maxHeartbeats 4000000 in
set_option maxRecDepth 100000 in
theorem kX11_darkOf_5 {p : Program} {l : Launch} {e : Env} {s : State} {m : MethodId} {args : Array Value} {below : List Frame} {meth : Method} {c : Code} {A : Nat → Prop} {Q : State → Prop} {G : GP} (K : Cx p s m meth c G cX11_darkOf RX11 5 (some .int) args A) (F : Nat) (xx : Nat → Nat) (σxx : ST) (v1 : Int32) (v2 : Int32) {z : Int32 × Int32} (kk : ∀ (H : Heap) (locs : List Loc) (ls : Array Slot), va_P G.1 vwCl (List.flatten [wX G xx σxx]) H → va_D A (List.flatten [wX G xx σxx]) → va_S A s.heap H locs → lv_has ls 5 [(0, .ref (xx 0)), (1, .int v1), (2, .int v2), (3, .int z.1), (4, .int z.2)] → W p l e (RM 4) s m args below meth c H locs 0 0 Q (F0 m 69 ls [])) :
    ∀ (n : Nat) (v3 : Int32) (v4 : Int32) (H : Heap) (locs : List Loc) (ls : Array Slot), va_P G.1 vwCl (List.flatten [wX G xx σxx]) H → va_D A (List.flatten [wX G xx σxx]) → va_S A s.heap H locs → lv_has ls 5 [(0, .ref (xx 0)), (1, .int v1), (2, .int v2), (3, .int v3), (4, .int v4)] → gX11_darkOf_5 F σxx v1 v2 n v3 v4 = some z → W p l e (RM 4) s m args below meth c H locs 0 0 Q (F0 m 5 ls []) := by
  obtain ⟨hx, hb, hr, hml, hts, hown, hlocks, hA, hG⟩ := id K
  intro n
  induction n with
  | zero =>
    intro v3 v4 H locs ls hP hD hS hl h
    have h : none = some z := h
    cases h
  | succ n ih =>
    intro v3 v4 H locs ls hP hD hS hl h
    have h : gbX11_darkOf_5 F σxx v1 v2 (gX11_darkOf_5 F σxx v1 v2 n) v3 v4 = some z := h
    unfold gbX11_darkOf_5 at h
    refine lv_iload hx hb dX11_darkOf_5 (lv_at hl 4 rfl) ?_
    refine lv_aload_n hx hb dX11_darkOf_7 rfl (lv_at hl 0 rfl) ?_
    refine va_get (D := G.1) (cl := vwCl) (tys := tysG G) (ci := 11) (v := .int (σxx.1 11)) (C := RX11) (T := TX11) (N := 37) hx hb hts iX11 hown hG.1 hP 0 rfl rfl 11 (Nat.le_of_ble_eq_true rfl) (hts _ tw_4_108) (fun _ h9 => h9) rfl dX11_darkOf_8 ?_
    refine lv_icmp_ge (tgt := 69) hx hb dX11_darkOf_11 (by decide) (fun c1 => ?_) (fun c1 => ?_)
    · have h := if_t c1 h
      cases h
      exact kk _ _ _ hP hD hS (lv_sub hl [0, 1, 2, 3, 4] rfl)
    · have h := if_f c1 h
      refine lv_iload_n hx hb dX11_darkOf_14 rfl (lv_at hl 3 rfl) ?_
      refine lv_aload_n hx hb dX11_darkOf_15 rfl (lv_at hl 0 rfl) ?_
      refine va_get (D := G.1) (cl := vwCl) (tys := tysG G) (ci := 11) (v := .ref (xx 8)) (C := RX11) (T := TX11) (N := 37) hx hb hts iX11 hown hG.1 hP 0 rfl rfl 7 (Nat.le_of_ble_eq_true rfl) (hts _ tw_4_104) (fun _ h9 => h9) rfl dX11_darkOf_16 ?_
      refine lv_iconst (v := 3) hx hb dX11_darkOf_19 li_3 ?_
      refine lv_iload hx hb dX11_darkOf_20 (lv_at hl 4 rfl) ?_
      refine lv_imul hx hb dX11_darkOf_22 ?_
      refine lv_iconst (v := 2) hx hb dX11_darkOf_23 li_2 ?_
      refine lv_iadd hx hb dX11_darkOf_24 ?_
      obtain ⟨ck2, h⟩ := ck h
      refine va_iald hx hb hG.1 hP 5 0 rfl rfl ck2 dX11_darkOf_25 ?_
      refine lv_iload_n hx hb dX11_darkOf_26 rfl (lv_at hl 2 rfl) ?_
      refine lv_icmp_ne (tgt := 60) hx hb dX11_darkOf_27 (by decide) (fun c3 => ?_) (fun c3 => ?_)
      · have h := if_f c3 h
        refine lv_iconst (v := 0) hx hb dX11_darkOf_60 li_0 ?_
        refine lv_ior hx hb dX11_darkOf_61 ?_
        refine lv_istore_n (lv' := [(3, .int (v3 ||| (0 : Int32))), (0, .ref (xx 0)), (1, .int v1), (2, .int v2), (4, .int v4)]) hx hb dX11_darkOf_62 rfl hl (Nat.le_of_ble_eq_true rfl) rfl (fun ls hl => ?_)
        refine lv_iinc (v := v4 + 1) (lv' := [(4, .int (v4 + 1)), (3, .int (v3 ||| (0 : Int32))), (0, .ref (xx 0)), (1, .int v1), (2, .int v2)]) hx hb dX11_darkOf_63 hl (k := 4) rfl (by rw [li_1]) (Nat.le_of_ble_eq_true rfl) rfl (fun ls hl => ?_)
        refine lv_goto (tgt := 5) hx hb dX11_darkOf_66 (by decide) ?_
        exact ih (v3 ||| (0 : Int32)) (v4 + 1) _ _ _ hP hD hS (lv_sub hl [2, 3, 4, 1, 0] rfl) h
      · have h := if_t c3 h
        refine lv_aload_n hx hb dX11_darkOf_30 rfl (lv_at hl 0 rfl) ?_
        refine va_get (D := G.1) (cl := vwCl) (tys := tysG G) (ci := 11) (v := .ref (xx 8)) (C := RX11) (T := TX11) (N := 37) hx hb hts iX11 hown hG.1 hP 0 rfl rfl 7 (Nat.le_of_ble_eq_true rfl) (hts _ tw_4_104) (fun _ h9 => h9) rfl dX11_darkOf_31 ?_
        refine lv_iconst (v := 3) hx hb dX11_darkOf_34 li_3 ?_
        refine lv_iload hx hb dX11_darkOf_35 (lv_at hl 4 rfl) ?_
        refine lv_imul hx hb dX11_darkOf_37 ?_
        obtain ⟨ck4, h⟩ := ck h
        refine va_iald hx hb hG.1 hP 5 0 rfl rfl ck4 dX11_darkOf_38 ?_
        obtain ⟨r5, hc6, h⟩ := bd_ex h
        refine sl_S K (mX11_highOf l G F (σxx.2.1 7 ((3 : Int32) * v4).toNatClampNeg) hc6) tw_5_40 tw_1_12 tw_5_39 tw_5_38 cdX11_highOf ⟨Nat.le_of_ble_eq_true rfl, Nat.le_of_ble_eq_true rfl⟩ hP hD hS [] rfl rfl rfl rfl hl.1 (Nat.le_of_ble_eq_true rfl) ⟨Nat.zero_le _, Nat.zero_le _⟩ dX11_darkOf_39 (fun H locs hP hD hS => ?_)
        have hP : va_P G.1 vwCl (List.flatten [wX G xx σxx]) H := hP
        have hD : va_D A (List.flatten [wX G xx σxx]) := hD
        refine lv_aload_n hx hb dX11_darkOf_42 rfl (lv_at hl 0 rfl) ?_
        refine va_get (D := G.1) (cl := vwCl) (tys := tysG G) (ci := 11) (v := .ref (xx 8)) (C := RX11) (T := TX11) (N := 37) hx hb hts iX11 hown hG.1 hP 0 rfl rfl 7 (Nat.le_of_ble_eq_true rfl) (hts _ tw_4_104) (fun _ h9 => h9) rfl dX11_darkOf_43 ?_
        refine lv_iconst (v := 3) hx hb dX11_darkOf_46 li_3 ?_
        refine lv_iload hx hb dX11_darkOf_47 (lv_at hl 4 rfl) ?_
        refine lv_imul hx hb dX11_darkOf_49 ?_
        refine lv_iconst (v := 1) hx hb dX11_darkOf_50 li_1 ?_
        refine lv_iadd hx hb dX11_darkOf_51 ?_
        obtain ⟨ck7, h⟩ := ck h
        refine va_iald hx hb hG.1 hP 5 0 rfl rfl ck7 dX11_darkOf_52 ?_
        refine lv_iload_n hx hb dX11_darkOf_53 rfl (lv_at hl 1 rfl) ?_
        obtain ⟨r8, hc9, h⟩ := bd_ex h
        refine sl_S K (mX11_reach l G F r5 (σxx.2.1 7 (((3 : Int32) * v4) + (1 : Int32)).toNatClampNeg) v1 hc9) tw_5_106 tw_1_12 tw_5_105 tw_5_104 cdX11_reach ⟨Nat.le_of_ble_eq_true rfl, Nat.le_of_ble_eq_true rfl⟩ hP hD hS [] rfl rfl rfl rfl hl.1 (Nat.le_of_ble_eq_true rfl) ⟨Nat.zero_le _, Nat.zero_le _⟩ dX11_darkOf_54 (fun H locs hP hD hS => ?_)
        have hP : va_P G.1 vwCl (List.flatten [wX G xx σxx]) H := hP
        have hD : va_D A (List.flatten [wX G xx σxx]) := hD
        refine lv_goto (tgt := 61) hx hb dX11_darkOf_57 (by decide) ?_
        refine lv_ior hx hb dX11_darkOf_61 ?_
        refine lv_istore_n (lv' := [(3, .int (v3 ||| r8)), (0, .ref (xx 0)), (1, .int v1), (2, .int v2), (4, .int v4)]) hx hb dX11_darkOf_62 rfl hl (Nat.le_of_ble_eq_true rfl) rfl (fun ls hl => ?_)
        refine lv_iinc (v := v4 + 1) (lv' := [(4, .int (v4 + 1)), (3, .int (v3 ||| r8)), (0, .ref (xx 0)), (1, .int v1), (2, .int v2)]) hx hb dX11_darkOf_63 hl (k := 4) rfl (by rw [li_1]) (Nat.le_of_ble_eq_true rfl) rfl (fun ls hl => ?_)
        refine lv_goto (tgt := 5) hx hb dX11_darkOf_66 (by decide) ?_
        exact ih (v3 ||| r8) (v4 + 1) _ _ _ hP hD hS (lv_sub hl [2, 3, 4, 1, 0] rfl) h
def fX11_darkOf (F : Nat) (σxx : ST) (x1 : Int32) (x2 : Int32) : Option (Int32) :=
  (gX11_darkOf_5 F σxx x1 x2 F (0 : Int32) (0 : Int32)).bind fun z10 =>
    (fX11_lit F σxx x1 x2).bind fun r12 =>
    some (z10.1 &&& r12)
theorem cdX11_darkOf : CallD yX11_darkOf 2 := by decide +kernel
set_option maxHeartbeats 4000000 in
set_option maxRecDepth 100000 in
theorem mX11_darkOf (l : Launch) (G : GP) (F : Nat) (xx : Nat → Nat) (σxx : ST) (x1 : Int32) (x2 : Int32) {r : Int32} (h : fX11_darkOf F σxx x1 x2 = some r) : CC l G yX11_darkOf cX11_darkOf 5 (some .int) 4 [.ref (xx 0), .int x1, .int x2] (List.flatten [wX G xx σxx]) (List.flatten [wX G xx σxx]) (some (.int r)) := by
  refine CC.of (by decide) (Nat.le_of_ble_eq_true rfl) ?_
  intro p e s m below meth c A K hP hD hS ls hl
  obtain ⟨hx, hb, hr, hml, hts, hown, hlocks, hA, hG⟩ := id K
  have hl : lv_has ls 5 [(0, .ref (xx 0)), (1, .int x1), (2, .int x2)] := hl
  unfold fX11_darkOf at h
  refine lv_iconst (v := 0) hx hb dX11_darkOf_0 li_0 ?_
  refine lv_istore_n (lv' := [(3, .int (0 : Int32)), (0, .ref (xx 0)), (1, .int x1), (2, .int x2)]) hx hb dX11_darkOf_1 rfl hl (Nat.le_of_ble_eq_true rfl) rfl (fun ls hl => ?_)
  refine lv_iconst (v := 0) hx hb dX11_darkOf_2 li_0 ?_
  refine lv_istore (lv' := [(4, .int (0 : Int32)), (3, .int (0 : Int32)), (0, .ref (xx 0)), (1, .int x1), (2, .int x2)]) hx hb dX11_darkOf_3 hl (Nat.le_of_ble_eq_true rfl) rfl (fun ls hl => ?_)
  obtain ⟨z10, hz11, h⟩ := bd_ex h
  refine kX11_darkOf_5 K F xx σxx x1 x2 (fun H locs ls hP hD hS hl => ?_) F (0 : Int32) (0 : Int32) _ _ _ hP hD hS (lv_sub hl [2, 3, 4, 1, 0] rfl) hz11
  refine lv_iload_n hx hb dX11_darkOf_69 rfl (lv_at hl 3 rfl) ?_
  refine lv_aload_n hx hb dX11_darkOf_70 rfl (lv_at hl 0 rfl) ?_
  refine lv_iload_n hx hb dX11_darkOf_71 rfl (lv_at hl 1 rfl) ?_
  refine lv_iload_n hx hb dX11_darkOf_72 rfl (lv_at hl 2 rfl) ?_
  obtain ⟨r12, hc13, h⟩ := bd_ex h
  refine sl_V (q0 := 0) (ci := 11) (C := RX11) K (mX11_lit l G F xx σxx x1 x2 hc13) tw_5_110 tw_1_12 tw_5_109 tw_0_13 tw_5_107 cdX11_lit ⟨Nat.le_of_ble_eq_true rfl, Nat.le_of_ble_eq_true rfl⟩ hP hD hS [0] rfl rfl rfl rfl rfl rfl rfl hl.1 (Nat.le_of_ble_eq_true rfl) ⟨Nat.zero_le _, Nat.zero_le _⟩ dX11_darkOf_73 (fun H locs hP hD hS => ?_)
  have hP : va_P G.1 vwCl (List.flatten [wX G xx σxx]) H := hP
  have hD : va_D A (List.flatten [wX G xx σxx]) := hD
  refine lv_iand hx hb dX11_darkOf_76 ?_
  cases h
  exact rt_i K hP hD hS dX11_darkOf_77
def fX11_shadow (F : Nat) (σxx : ST) (x1 : Int32) (x2 : Int32) : Option (Int32) :=
  (fX11_isBody F σxx x1).bind fun r1 =>
  if r1 = 0 then
    some (-1 : Int32)
  else
    (fX11_isMinute F x2).bind fun r4 =>
    if r4 = 0 then
      some (-2 : Int32)
    else
      if ((3 : Int32) * x1) < 0 ∨ 24 ≤ ((3 : Int32) * x1).toNatClampNeg then none else
      (fX11_highOf F (σxx.2.1 7 ((3 : Int32) * x1).toNatClampNeg)).bind fun r8 =>
      (fX11_longAt F r8 x2).bind fun r10 =>
      some r10
theorem cdX11_shadow : CallD yX11_shadow 2 := by decide +kernel
set_option maxHeartbeats 4000000 in
set_option maxRecDepth 100000 in
theorem mX11_shadow (l : Launch) (G : GP) (F : Nat) (xx : Nat → Nat) (σxx : ST) (x1 : Int32) (x2 : Int32) {r : Int32} (h : fX11_shadow F σxx x1 x2 = some r) : CC l G yX11_shadow cX11_shadow 3 (some .int) 3 [.ref (xx 0), .int x1, .int x2] (List.flatten [wX G xx σxx]) (List.flatten [wX G xx σxx]) (some (.int r)) := by
  refine CC.of (by decide) (Nat.le_of_ble_eq_true rfl) ?_
  intro p e s m below meth c A K hP hD hS ls hl
  obtain ⟨hx, hb, hr, hml, hts, hown, hlocks, hA, hG⟩ := id K
  have hl : lv_has ls 3 [(0, .ref (xx 0)), (1, .int x1), (2, .int x2)] := hl
  unfold fX11_shadow at h
  refine lv_aload_n hx hb dX11_shadow_0 rfl (lv_at hl 0 rfl) ?_
  refine lv_iload_n hx hb dX11_shadow_1 rfl (lv_at hl 1 rfl) ?_
  obtain ⟨r1, hc2, h⟩ := bd_ex h
  refine sl_V (q0 := 0) (ci := 11) (C := RX11) K (mX11_isBody l G F xx σxx x1 hc2) tw_5_37 tw_1_12 tw_5_36 tw_0_8 tw_5_34 cdX11_isBody ⟨Nat.le_of_ble_eq_true rfl, Nat.le_of_ble_eq_true rfl⟩ hP hD hS [0] rfl rfl rfl rfl rfl rfl rfl hl.1 (Nat.le_of_ble_eq_true rfl) ⟨Nat.zero_le _, Nat.zero_le _⟩ dX11_shadow_2 (fun H locs hP hD hS => ?_)
  have hP : va_P G.1 vwCl (List.flatten [wX G xx σxx]) H := hP
  have hD : va_D A (List.flatten [wX G xx σxx]) := hD
  refine lv_if_ne (tgt := 10) hx hb dX11_shadow_5 (by decide) (fun c3 => ?_) (fun c3 => ?_)
  · have h := if_f c3 h
    refine lv_iload_n hx hb dX11_shadow_10 rfl (lv_at hl 2 rfl) ?_
    obtain ⟨r4, hc5, h⟩ := bd_ex h
    refine sl_S K (mX11_isMinute l G F x2 hc5) tw_5_91 tw_1_12 tw_5_90 tw_5_89 cdX11_isMinute ⟨Nat.le_of_ble_eq_true rfl, Nat.le_of_ble_eq_true rfl⟩ hP hD hS [] rfl rfl rfl rfl hl.1 (Nat.le_of_ble_eq_true rfl) ⟨Nat.zero_le _, Nat.zero_le _⟩ dX11_shadow_11 (fun H locs hP hD hS => ?_)
    have hP : va_P G.1 vwCl (List.flatten [wX G xx σxx]) H := hP
    have hD : va_D A (List.flatten [wX G xx σxx]) := hD
    refine lv_if_eq (tgt := 35) hx hb dX11_shadow_14 (by decide) (fun c6 => ?_) (fun c6 => ?_)
    · have h := if_t c6 h
      refine lv_bipush (v := -2) hx hb dX11_shadow_35 lb_m2 ?_
      cases h
      exact rt_i K hP hD hS dX11_shadow_37
    · have h := if_f c6 h
      refine lv_aload_n hx hb dX11_shadow_17 rfl (lv_at hl 0 rfl) ?_
      refine va_get (D := G.1) (cl := vwCl) (tys := tysG G) (ci := 11) (v := .ref (xx 8)) (C := RX11) (T := TX11) (N := 37) hx hb hts iX11 hown hG.1 hP 0 rfl rfl 7 (Nat.le_of_ble_eq_true rfl) (hts _ tw_4_104) (fun _ h9 => h9) rfl dX11_shadow_18 ?_
      refine lv_iconst (v := 3) hx hb dX11_shadow_21 li_3 ?_
      refine lv_iload_n hx hb dX11_shadow_22 rfl (lv_at hl 1 rfl) ?_
      refine lv_imul hx hb dX11_shadow_23 ?_
      obtain ⟨ck7, h⟩ := ck h
      refine va_iald hx hb hG.1 hP 5 0 rfl rfl ck7 dX11_shadow_24 ?_
      obtain ⟨r8, hc9, h⟩ := bd_ex h
      refine sl_S K (mX11_highOf l G F (σxx.2.1 7 ((3 : Int32) * x1).toNatClampNeg) hc9) tw_5_40 tw_1_12 tw_5_39 tw_5_38 cdX11_highOf ⟨Nat.le_of_ble_eq_true rfl, Nat.le_of_ble_eq_true rfl⟩ hP hD hS [] rfl rfl rfl rfl hl.1 (Nat.le_of_ble_eq_true rfl) ⟨Nat.zero_le _, Nat.zero_le _⟩ dX11_shadow_25 (fun H locs hP hD hS => ?_)
      have hP : va_P G.1 vwCl (List.flatten [wX G xx σxx]) H := hP
      have hD : va_D A (List.flatten [wX G xx σxx]) := hD
      refine lv_iload_n hx hb dX11_shadow_28 rfl (lv_at hl 2 rfl) ?_
      obtain ⟨r10, hc11, h⟩ := bd_ex h
      refine sl_S K (mX11_longAt l G F r8 x2 hc11) tw_5_95 tw_1_12 tw_5_94 tw_5_93 cdX11_longAt ⟨Nat.le_of_ble_eq_true rfl, Nat.le_of_ble_eq_true rfl⟩ hP hD hS [] rfl rfl rfl rfl hl.1 (Nat.le_of_ble_eq_true rfl) ⟨Nat.zero_le _, Nat.zero_le _⟩ dX11_shadow_29 (fun H locs hP hD hS => ?_)
      have hP : va_P G.1 vwCl (List.flatten [wX G xx σxx]) H := hP
      have hD : va_D A (List.flatten [wX G xx σxx]) := hD
      refine lv_goto (tgt := 37) hx hb dX11_shadow_32 (by decide) ?_
      cases h
      exact rt_i K hP hD hS dX11_shadow_37
  · have h := if_t c3 h
    refine lv_iconst (v := -1) hx hb dX11_shadow_8 li_m1 ?_
    cases h
    exact rt_i K hP hD hS dX11_shadow_9
def fX11_dark (F : Nat) (σxx : ST) (x1 : Int32) (x2 : Int32) : Option (Int32) :=
  (fX11_isMinute F x1).bind fun r1 =>
  if r1 = 0 then
    some (-2 : Int32)
  else
    (fX11_in F x2.toInt64 (0 : Int64) (5 : Int64)).bind fun r4 =>
    if r4 = 0 then
      some (-2 : Int32)
    else
      (fX11_darkOf F σxx x1 x2).bind fun r7 =>
      some r7
theorem cdX11_dark : CallD yX11_dark 2 := by decide +kernel
set_option maxHeartbeats 4000000 in
set_option maxRecDepth 100000 in
theorem mX11_dark (l : Launch) (G : GP) (F : Nat) (xx : Nat → Nat) (σxx : ST) (x1 : Int32) (x2 : Int32) {r : Int32} (h : fX11_dark F σxx x1 x2 = some r) : CC l G yX11_dark cX11_dark 3 (some .int) 5 [.ref (xx 0), .int x1, .int x2] (List.flatten [wX G xx σxx]) (List.flatten [wX G xx σxx]) (some (.int r)) := by
  refine CC.of (by decide) (Nat.le_of_ble_eq_true rfl) ?_
  intro p e s m below meth c A K hP hD hS ls hl
  obtain ⟨hx, hb, hr, hml, hts, hown, hlocks, hA, hG⟩ := id K
  have hl : lv_has ls 3 [(0, .ref (xx 0)), (1, .int x1), (2, .int x2)] := hl
  unfold fX11_dark at h
  refine lv_iload_n hx hb dX11_dark_0 rfl (lv_at hl 1 rfl) ?_
  obtain ⟨r1, hc2, h⟩ := bd_ex h
  refine sl_S K (mX11_isMinute l G F x1 hc2) tw_5_91 tw_1_12 tw_5_90 tw_5_89 cdX11_isMinute ⟨Nat.le_of_ble_eq_true rfl, Nat.le_of_ble_eq_true rfl⟩ hP hD hS [] rfl rfl rfl rfl hl.1 (Nat.le_of_ble_eq_true rfl) ⟨Nat.zero_le _, Nat.zero_le _⟩ dX11_dark_1 (fun H locs hP hD hS => ?_)
  have hP : va_P G.1 vwCl (List.flatten [wX G xx σxx]) H := hP
  have hD : va_D A (List.flatten [wX G xx σxx]) := hD
  refine lv_if_eq (tgt := 28) hx hb dX11_dark_4 (by decide) (fun c3 => ?_) (fun c3 => ?_)
  · have h := if_t c3 h
    refine lv_bipush (v := -2) hx hb dX11_dark_28 lb_m2 ?_
    cases h
    exact rt_i K hP hD hS dX11_dark_30
  · have h := if_f c3 h
    refine lv_iload_n hx hb dX11_dark_7 rfl (lv_at hl 2 rfl) ?_
    refine lv_i2l (v := x2.toInt64) hx hb dX11_dark_8 rfl ?_
    refine lv_lconst (v := 0) hx hb dX11_dark_9 ll_0 ?_
    refine lv_ldc2 (v := 5) hx hb hown (hts _ tw_5_57) dX11_dark_10 ?_
    obtain ⟨r4, hc5, h⟩ := bd_ex h
    refine sl_S K (mX11_in l G F x2.toInt64 (0 : Int64) (5 : Int64) hc5) tw_4_217 tw_1_12 tw_4_216 tw_4_215 cdX11_in ⟨Nat.le_of_ble_eq_true rfl, Nat.le_of_ble_eq_true rfl⟩ hP hD hS [] rfl rfl rfl rfl hl.1 (Nat.le_of_ble_eq_true rfl) ⟨Nat.zero_le _, Nat.zero_le _⟩ dX11_dark_13 (fun H locs hP hD hS => ?_)
    have hP : va_P G.1 vwCl (List.flatten [wX G xx σxx]) H := hP
    have hD : va_D A (List.flatten [wX G xx σxx]) := hD
    refine lv_if_eq (tgt := 28) hx hb dX11_dark_16 (by decide) (fun c6 => ?_) (fun c6 => ?_)
    · have h := if_t c6 h
      refine lv_bipush (v := -2) hx hb dX11_dark_28 lb_m2 ?_
      cases h
      exact rt_i K hP hD hS dX11_dark_30
    · have h := if_f c6 h
      refine lv_aload_n hx hb dX11_dark_19 rfl (lv_at hl 0 rfl) ?_
      refine lv_iload_n hx hb dX11_dark_20 rfl (lv_at hl 1 rfl) ?_
      refine lv_iload_n hx hb dX11_dark_21 rfl (lv_at hl 2 rfl) ?_
      obtain ⟨r7, hc8, h⟩ := bd_ex h
      refine sl_V (q0 := 0) (ci := 11) (C := RX11) K (mX11_darkOf l G F xx σxx x1 x2 hc8) tw_5_103 tw_1_12 tw_5_102 tw_0_12 tw_5_100 cdX11_darkOf ⟨Nat.le_of_ble_eq_true rfl, Nat.le_of_ble_eq_true rfl⟩ hP hD hS [0] rfl rfl rfl rfl rfl rfl rfl hl.1 (Nat.le_of_ble_eq_true rfl) ⟨Nat.zero_le _, Nat.zero_le _⟩ dX11_dark_22 (fun H locs hP hD hS => ?_)
      have hP : va_P G.1 vwCl (List.flatten [wX G xx σxx]) H := hP
      have hD : va_D A (List.flatten [wX G xx σxx]) := hD
      refine lv_goto (tgt := 30) hx hb dX11_dark_25 (by decide) ?_
      cases h
      exact rt_i K hP hD hS dX11_dark_30
