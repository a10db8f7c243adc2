def fX0_forget (F : Nat) (σaa : ST)  : Option (ST) :=
  nm (sI σaa 5 (0 : Int32)) fun (s1 : ST) =>
  nm (sI s1 6 (0 : Int32)) fun (s3 : ST) =>
  some s3
theorem cdX0_forget : CallD yX0_forget 0 := by decide +kernel
set_option maxHeartbeats 4000000 in
set_option maxRecDepth 100000 in
theorem mX0_forget (l : Launch) (G : GP) (F : Nat) (aa : Nat → Nat) (σaa : ST)  {r : ST} (h : fX0_forget F σaa  = some r) : CC l G yX0_forget cX0_forget 1 none 1 [.ref (aa 0)] (List.flatten [wA G aa σaa]) (List.flatten [wA G aa r]) none := by
  refine CC.of (by decide) (Nat.le_of_ble_eq_true rfl) ?_
  intro p e s m below meth c A K hP hD hS ls hl
  obtain ⟨hx, hb, hr, hml, hts, hown, hlocks, hA, hG⟩ := id K
  have hl : lv_has ls 1 [(0, .ref (aa 0))] := hl
  unfold fX0_forget at h
  refine lv_aload_n hx hb dX0_forget_0 rfl (lv_at hl 0 rfl) ?_
  refine lv_iconst (v := 0) hx hb dX0_forget_1 li_0 ?_
  obtain ⟨s1, e2, h⟩ := nm_ex h
  refine va_put (D := G.1) (cl := vwCl) (tys := tysG G) (ci := 0) (v := .int (0 : Int32)) (ty := .int) (C := RX0) (T := TX0) (N := 7) hx hb hts iX0 tyX0 tyX0_ok nmX0 hown hG.1 hP hD hS 0 rfl rfl 5 (Nat.le_of_ble_eq_true rfl) (hts _ tw_1_165) (fun _ h9 => h9) rfl (by decide +kernel) rfl rfl (Nat.le_of_ble_eq_true rfl) dX0_forget_2 (fun H locs hP hD hS => ?_)
  have hP : va_P G.1 vwCl (List.flatten [wA G aa s1]) H := by rw [e2]; exact hP
  have hD : va_D A (List.flatten [wA G aa s1]) := by rw [e2]; exact hD
  refine lv_aload_n hx hb dX0_forget_5 rfl (lv_at hl 0 rfl) ?_
  refine lv_iconst (v := 0) hx hb dX0_forget_6 li_0 ?_
  obtain ⟨s3, e4, h⟩ := nm_ex h
  refine va_put (D := G.1) (cl := vwCl) (tys := tysG G) (ci := 0) (v := .int (0 : Int32)) (ty := .int) (C := RX0) (T := TX0) (N := 7) hx hb hts iX0 tyX0 tyX0_ok nmX0 hown hG.1 hP hD hS 0 rfl rfl 6 (Nat.le_of_ble_eq_true rfl) (hts _ tw_1_166) (fun _ h9 => h9) rfl (by decide +kernel) rfl rfl (Nat.le_of_ble_eq_true rfl) dX0_forget_7 (fun H locs hP hD hS => ?_)
  have hP : va_P G.1 vwCl (List.flatten [wA G aa s3]) H := by rw [e4]; exact hP
  have hD : va_D A (List.flatten [wA G aa s3]) := by rw [e4]; exact hD
  cases h
  exact rt_v K hP hD hS dX0_forget_10
def fX0_remember (F : Nat) (σaa : ST) (σbb : ST) (x1 : Int32) (x2 : Int32) : Option (ST) :=
  (fX1_has F σbb x2).bind fun r1 =>
  if r1 = 0 then
    some σaa
  else
    if (σaa.1 6) = (16 : Int32) then
      nm (sI σaa 5 (((σaa.1 5) + (1 : Int32)) - ((σaa.1 5) + (1 : Int32)) / (16 : Int32) * (16 : Int32))) fun (s21 : ST) =>
      nm (sI s21 6 ((s21.1 6) - (1 : Int32))) fun (s23 : ST) =>
      nm (((s23.1 5) + (s23.1 6)) - ((s23.1 5) + (s23.1 6)) / (16 : Int32) * (16 : Int32)) fun (y25 : Int32) =>
      if y25 < 0 ∨ 16 ≤ y25.toNatClampNeg then none else
      nm (sA s23 0 y25.toNatClampNeg x1) fun (s28 : ST) =>
      nm (sA s28 1 y25.toNatClampNeg x2) fun (s30 : ST) =>
      if x2 < 0 ∨ 8 ≤ x2.toNatClampNeg then none else
      nm (sA s30 2 y25.toNatClampNeg (σbb.2.1 0 x2.toNatClampNeg)) fun (s33 : ST) =>
      nm (sA s33 3 y25.toNatClampNeg (σbb.2.1 1 x2.toNatClampNeg)) fun (s35 : ST) =>
      nm (sA s35 4 y25.toNatClampNeg (σbb.2.1 2 x2.toNatClampNeg)) fun (s37 : ST) =>
      nm (sI s37 6 ((s37.1 6) + (1 : Int32))) fun (s39 : ST) =>
      some s39
    else
      nm (((σaa.1 5) + (σaa.1 6)) - ((σaa.1 5) + (σaa.1 6)) / (16 : Int32) * (16 : Int32)) fun (y5 : Int32) =>
      if y5 < 0 ∨ 16 ≤ y5.toNatClampNeg then none else
      nm (sA σaa 0 y5.toNatClampNeg x1) fun (s8 : ST) =>
      nm (sA s8 1 y5.toNatClampNeg x2) fun (s10 : ST) =>
      if x2 < 0 ∨ 8 ≤ x2.toNatClampNeg then none else
      nm (sA s10 2 y5.toNatClampNeg (σbb.2.1 0 x2.toNatClampNeg)) fun (s13 : ST) =>
      nm (sA s13 3 y5.toNatClampNeg (σbb.2.1 1 x2.toNatClampNeg)) fun (s15 : ST) =>
      nm (sA s15 4 y5.toNatClampNeg (σbb.2.1 2 x2.toNatClampNeg)) fun (s17 : ST) =>
      nm (sI s17 6 ((s17.1 6) + (1 : Int32))) fun (s19 : ST) =>
      some s19
theorem cdX0_remember : CallD yX0_remember 3 := by decide +kernel
set_option maxHeartbeats 4000000 in
set_option maxRecDepth 100000 in
theorem mX0_remember (l : Launch) (G : GP) (F : Nat) (aa : Nat → Nat) (bb : Nat → Nat) (σaa : ST) (σbb : ST) (x1 : Int32) (x2 : Int32) {r : ST} (h : fX0_remember F σaa σbb x1 x2 = some r) : CC l G yX0_remember cX0_remember 5 none 3 [.ref (aa 0), .int x1, .int x2, .ref (bb 0)] (List.flatten [wA G aa σaa, wB G bb σbb]) (List.flatten [wA G aa r, wB G bb σbb]) none := by
  refine CC.of (by decide) (Nat.le_of_ble_eq_true rfl) ?_
  intro p e s m below meth c A K hP hD hS ls hl
  obtain ⟨hx, hb, hr, hml, hts, hown, hlocks, hA, hG⟩ := id K
  have hl : lv_has ls 5 [(0, .ref (aa 0)), (1, .int x1), (2, .int x2), (3, .ref (bb 0))] := hl
  unfold fX0_remember at h
  refine lv_aload_n hx hb dX0_remember_0 rfl (lv_at hl 3 rfl) ?_
  refine lv_iload_n hx hb dX0_remember_1 rfl (lv_at hl 2 rfl) ?_
  obtain ⟨r1, hc2, h⟩ := bd_ex h
  refine sl_V (q0 := 6) (ci := 1) (C := RX1) K (mX1_has l G F bb σbb x2 hc2) tw_3_50 tw_1_5 tw_3_48 tw_3_49 tw_3_84 cdX1_has ⟨Nat.le_of_ble_eq_true rfl, Nat.le_of_ble_eq_true rfl⟩ hP hD hS [1] rfl rfl rfl rfl rfl rfl rfl hl.1 (Nat.le_of_ble_eq_true rfl) ⟨Nat.zero_le _, Nat.zero_le _⟩ dX0_remember_2 (fun H locs hP hD hS => ?_)
  have hP : va_P G.1 vwCl (List.flatten [wA G aa σaa, wB G bb σbb]) H := hP
  have hD : va_D A (List.flatten [wA G aa σaa, wB G bb σbb]) := hD
  refine lv_if_ne (tgt := 9) hx hb dX0_remember_5 (by decide) (fun c3 => ?_) (fun c3 => ?_)
  · have h := if_f c3 h
    refine lv_aload_n hx hb dX0_remember_9 rfl (lv_at hl 0 rfl) ?_
    refine va_get (D := G.1) (cl := vwCl) (tys := tysG G) (ci := 0) (v := .int (σaa.1 6)) (C := RX0) (T := TX0) (N := 7) hx hb hts iX0 hown hG.1 hP 0 rfl rfl 6 (Nat.le_of_ble_eq_true rfl) (hts _ tw_1_166) (fun _ h9 => h9) rfl dX0_remember_10 ?_
    refine lv_bipush (v := 16) hx hb dX0_remember_13 lb_16 ?_
    refine lv_icmp_ne (tgt := 41) hx hb dX0_remember_15 (by decide) (fun c4 => ?_) (fun c4 => ?_)
    · have h := if_f c4 h
      refine lv_aload_n hx hb dX0_remember_41 rfl (lv_at hl 0 rfl) ?_
      refine va_get (D := G.1) (cl := vwCl) (tys := tysG G) (ci := 0) (v := .int (σaa.1 5)) (C := RX0) (T := TX0) (N := 7) hx hb hts iX0 hown hG.1 hP 0 rfl rfl 5 (Nat.le_of_ble_eq_true rfl) (hts _ tw_1_165) (fun _ h9 => h9) rfl dX0_remember_42 ?_
      refine lv_aload_n hx hb dX0_remember_45 rfl (lv_at hl 0 rfl) ?_
      refine va_get (D := G.1) (cl := vwCl) (tys := tysG G) (ci := 0) (v := .int (σaa.1 6)) (C := RX0) (T := TX0) (N := 7) hx hb hts iX0 hown hG.1 hP 0 rfl rfl 6 (Nat.le_of_ble_eq_true rfl) (hts _ tw_1_166) (fun _ h9 => h9) rfl dX0_remember_46 ?_
      refine lv_iadd hx hb dX0_remember_49 ?_
      refine lv_bipush (v := 16) hx hb dX0_remember_50 lb_16 ?_
      refine lv_irem hx hb dX0_remember_52 (by decide) ?_
      obtain ⟨y5, e6, h⟩ := nm_ex h
      refine top_nm e6 ?_
      refine lv_istore (lv' := [(4, .int y5), (0, .ref (aa 0)), (1, .int x1), (2, .int x2), (3, .ref (bb 0))]) hx hb dX0_remember_53 hl (Nat.le_of_ble_eq_true rfl) rfl (fun ls hl => ?_)
      refine lv_aload_n hx hb dX0_remember_55 rfl (lv_at hl 1 rfl) ?_
      refine va_get (D := G.1) (cl := vwCl) (tys := tysG G) (ci := 0) (v := .ref (aa 1)) (C := RX0) (T := TX0) (N := 7) hx hb hts iX0 hown hG.1 hP 0 rfl rfl 0 (Nat.le_of_ble_eq_true rfl) (hts _ tw_1_160) (fun _ h9 => h9) rfl dX0_remember_56 ?_
      refine lv_iload hx hb dX0_remember_59 (lv_at hl 0 rfl) ?_
      refine lv_iload_n hx hb dX0_remember_61 rfl (lv_at hl 2 rfl) ?_
      obtain ⟨ck7, h⟩ := ck h
      obtain ⟨s8, e9, h⟩ := nm_ex h
      refine va_iast hx hb hG.1 hP hD hS 1 0 rfl rfl ck7 dX0_remember_62 (fun H locs hP hD hS => ?_)
      have hP : va_P G.1 vwCl (List.flatten [wA G aa s8, wB G bb σbb]) H := by rw [e9]; exact hP
      have hD : va_D A (List.flatten [wA G aa s8, wB G bb σbb]) := by rw [e9]; exact hD
      refine lv_aload_n hx hb dX0_remember_63 rfl (lv_at hl 1 rfl) ?_
      refine va_get (D := G.1) (cl := vwCl) (tys := tysG G) (ci := 0) (v := .ref (aa 2)) (C := RX0) (T := TX0) (N := 7) hx hb hts iX0 hown hG.1 hP 0 rfl rfl 1 (Nat.le_of_ble_eq_true rfl) (hts _ tw_1_161) (fun _ h9 => h9) rfl dX0_remember_64 ?_
      refine lv_iload hx hb dX0_remember_67 (lv_at hl 0 rfl) ?_
      refine lv_iload_n hx hb dX0_remember_69 rfl (lv_at hl 3 rfl) ?_
      obtain ⟨s10, e11, h⟩ := nm_ex h
      refine va_iast hx hb hG.1 hP hD hS 2 0 rfl rfl ck7 dX0_remember_70 (fun H locs hP hD hS => ?_)
      have hP : va_P G.1 vwCl (List.flatten [wA G aa s10, wB G bb σbb]) H := by rw [e11]; exact hP
      have hD : va_D A (List.flatten [wA G aa s10, wB G bb σbb]) := by rw [e11]; exact hD
      refine lv_aload_n hx hb dX0_remember_71 rfl (lv_at hl 1 rfl) ?_
      refine va_get (D := G.1) (cl := vwCl) (tys := tysG G) (ci := 0) (v := .ref (aa 3)) (C := RX0) (T := TX0) (N := 7) hx hb hts iX0 hown hG.1 hP 0 rfl rfl 2 (Nat.le_of_ble_eq_true rfl) (hts _ tw_1_162) (fun _ h9 => h9) rfl dX0_remember_72 ?_
      refine lv_iload hx hb dX0_remember_75 (lv_at hl 0 rfl) ?_
      refine lv_aload_n hx hb dX0_remember_77 rfl (lv_at hl 4 rfl) ?_
      refine va_get (D := G.1) (cl := vwCl) (tys := tysG G) (ci := 1) (v := .ref (bb 1)) (C := RX1) (T := TX1) (N := 4) hx hb hts iX1 hown hG.1 hP 6 rfl rfl 0 (Nat.le_of_ble_eq_true rfl) (hts _ tw_1_64) (fun _ h9 => h9) rfl dX0_remember_78 ?_
      refine lv_iload_n hx hb dX0_remember_81 rfl (lv_at hl 3 rfl) ?_
      obtain ⟨ck12, h⟩ := ck h
      refine va_iald hx hb hG.1 hP 7 0 rfl rfl ck12 dX0_remember_82 ?_
      obtain ⟨s13, e14, h⟩ := nm_ex h
      refine va_iast hx hb hG.1 hP hD hS 3 0 rfl rfl ck7 dX0_remember_83 (fun H locs hP hD hS => ?_)
      have hP : va_P G.1 vwCl (List.flatten [wA G aa s13, wB G bb σbb]) H := by rw [e14]; exact hP
      have hD : va_D A (List.flatten [wA G aa s13, wB G bb σbb]) := by rw [e14]; exact hD
      refine lv_aload_n hx hb dX0_remember_84 rfl (lv_at hl 1 rfl) ?_
      refine va_get (D := G.1) (cl := vwCl) (tys := tysG G) (ci := 0) (v := .ref (aa 4)) (C := RX0) (T := TX0) (N := 7) hx hb hts iX0 hown hG.1 hP 0 rfl rfl 3 (Nat.le_of_ble_eq_true rfl) (hts _ tw_1_163) (fun _ h9 => h9) rfl dX0_remember_85 ?_
      refine lv_iload hx hb dX0_remember_88 (lv_at hl 0 rfl) ?_
      refine lv_aload_n hx hb dX0_remember_90 rfl (lv_at hl 4 rfl) ?_
      refine va_get (D := G.1) (cl := vwCl) (tys := tysG G) (ci := 1) (v := .ref (bb 2)) (C := RX1) (T := TX1) (N := 4) hx hb hts iX1 hown hG.1 hP 6 rfl rfl 1 (Nat.le_of_ble_eq_true rfl) (hts _ tw_1_67) (fun _ h9 => h9) rfl dX0_remember_91 ?_
      refine lv_iload_n hx hb dX0_remember_94 rfl (lv_at hl 3 rfl) ?_
      refine va_iald hx hb hG.1 hP 8 0 rfl rfl ck12 dX0_remember_95 ?_
      obtain ⟨s15, e16, h⟩ := nm_ex h
      refine va_iast hx hb hG.1 hP hD hS 4 0 rfl rfl ck7 dX0_remember_96 (fun H locs hP hD hS => ?_)
      have hP : va_P G.1 vwCl (List.flatten [wA G aa s15, wB G bb σbb]) H := by rw [e16]; exact hP
      have hD : va_D A (List.flatten [wA G aa s15, wB G bb σbb]) := by rw [e16]; exact hD
      refine lv_aload_n hx hb dX0_remember_97 rfl (lv_at hl 1 rfl) ?_
      refine va_get (D := G.1) (cl := vwCl) (tys := tysG G) (ci := 0) (v := .ref (aa 5)) (C := RX0) (T := TX0) (N := 7) hx hb hts iX0 hown hG.1 hP 0 rfl rfl 4 (Nat.le_of_ble_eq_true rfl) (hts _ tw_1_164) (fun _ h9 => h9) rfl dX0_remember_98 ?_
      refine lv_iload hx hb dX0_remember_101 (lv_at hl 0 rfl) ?_
      refine lv_aload_n hx hb dX0_remember_103 rfl (lv_at hl 4 rfl) ?_
      refine va_get (D := G.1) (cl := vwCl) (tys := tysG G) (ci := 1) (v := .ref (bb 3)) (C := RX1) (T := TX1) (N := 4) hx hb hts iX1 hown hG.1 hP 6 rfl rfl 2 (Nat.le_of_ble_eq_true rfl) (hts _ tw_1_71) (fun _ h9 => h9) rfl dX0_remember_104 ?_
      refine lv_iload_n hx hb dX0_remember_107 rfl (lv_at hl 3 rfl) ?_
      refine va_iald hx hb hG.1 hP 9 0 rfl rfl ck12 dX0_remember_108 ?_
      obtain ⟨s17, e18, h⟩ := nm_ex h
      refine va_iast hx hb hG.1 hP hD hS 5 0 rfl rfl ck7 dX0_remember_109 (fun H locs hP hD hS => ?_)
      have hP : va_P G.1 vwCl (List.flatten [wA G aa s17, wB G bb σbb]) H := by rw [e18]; exact hP
      have hD : va_D A (List.flatten [wA G aa s17, wB G bb σbb]) := by rw [e18]; exact hD
      refine lv_aload_n hx hb dX0_remember_110 rfl (lv_at hl 1 rfl) ?_
      refine lv_dup hx hb dX0_remember_111 rfl ?_
      refine va_get (D := G.1) (cl := vwCl) (tys := tysG G) (ci := 0) (v := .int (s17.1 6)) (C := RX0) (T := TX0) (N := 7) hx hb hts iX0 hown hG.1 hP 0 rfl rfl 6 (Nat.le_of_ble_eq_true rfl) (hts _ tw_1_166) (fun _ h9 => h9) rfl dX0_remember_112 ?_
      refine lv_iconst (v := 1) hx hb dX0_remember_115 li_1 ?_
      refine lv_iadd hx hb dX0_remember_116 ?_
      obtain ⟨s19, e20, h⟩ := nm_ex h
      refine va_put (D := G.1) (cl := vwCl) (tys := tysG G) (ci := 0) (v := .int ((s17.1 6) + (1 : Int32))) (ty := .int) (C := RX0) (T := TX0) (N := 7) hx hb hts iX0 tyX0 tyX0_ok nmX0 hown hG.1 hP hD hS 0 rfl rfl 6 (Nat.le_of_ble_eq_true rfl) (hts _ tw_1_166) (fun _ h9 => h9) rfl (by decide +kernel) rfl rfl (Nat.le_of_ble_eq_true rfl) dX0_remember_117 (fun H locs hP hD hS => ?_)
      have hP : va_P G.1 vwCl (List.flatten [wA G aa s19, wB G bb σbb]) H := by rw [e20]; exact hP
      have hD : va_D A (List.flatten [wA G aa s19, wB G bb σbb]) := by rw [e20]; exact hD
      cases h
      exact rt_v K hP hD hS dX0_remember_120
    · have h := if_t c4 h
      refine lv_aload_n hx hb dX0_remember_18 rfl (lv_at hl 0 rfl) ?_
      refine lv_aload_n hx hb dX0_remember_19 rfl (lv_at hl 0 rfl) ?_
      refine va_get (D := G.1) (cl := vwCl) (tys := tysG G) (ci := 0) (v := .int (σaa.1 5)) (C := RX0) (T := TX0) (N := 7) hx hb hts iX0 hown hG.1 hP 0 rfl rfl 5 (Nat.le_of_ble_eq_true rfl) (hts _ tw_1_165) (fun _ h9 => h9) rfl dX0_remember_20 ?_
      refine lv_iconst (v := 1) hx hb dX0_remember_23 li_1 ?_
      refine lv_iadd hx hb dX0_remember_24 ?_
      refine lv_bipush (v := 16) hx hb dX0_remember_25 lb_16 ?_
      refine lv_irem hx hb dX0_remember_27 (by decide) ?_
      obtain ⟨s21, e22, h⟩ := nm_ex h
      refine va_put (D := G.1) (cl := vwCl) (tys := tysG G) (ci := 0) (v := .int (((σaa.1 5) + (1 : Int32)) - ((σaa.1 5) + (1 : Int32)) / (16 : Int32) * (16 : Int32))) (ty := .int) (C := RX0) (T := TX0) (N := 7) hx hb hts iX0 tyX0 tyX0_ok nmX0 hown hG.1 hP hD hS 0 rfl rfl 5 (Nat.le_of_ble_eq_true rfl) (hts _ tw_1_165) (fun _ h9 => h9) rfl (by decide +kernel) rfl rfl (Nat.le_of_ble_eq_true rfl) dX0_remember_28 (fun H locs hP hD hS => ?_)
      have hP : va_P G.1 vwCl (List.flatten [wA G aa s21, wB G bb σbb]) H := by rw [e22]; exact hP
      have hD : va_D A (List.flatten [wA G aa s21, wB G bb σbb]) := by rw [e22]; exact hD
      refine lv_aload_n hx hb dX0_remember_31 rfl (lv_at hl 0 rfl) ?_
      refine lv_dup hx hb dX0_remember_32 rfl ?_
      refine va_get (D := G.1) (cl := vwCl) (tys := tysG G) (ci := 0) (v := .int (s21.1 6)) (C := RX0) (T := TX0) (N := 7) hx hb hts iX0 hown hG.1 hP 0 rfl rfl 6 (Nat.le_of_ble_eq_true rfl) (hts _ tw_1_166) (fun _ h9 => h9) rfl dX0_remember_33 ?_
      refine lv_iconst (v := 1) hx hb dX0_remember_36 li_1 ?_
      refine lv_isub hx hb dX0_remember_37 ?_
      obtain ⟨s23, e24, h⟩ := nm_ex h
      refine va_put (D := G.1) (cl := vwCl) (tys := tysG G) (ci := 0) (v := .int ((s21.1 6) - (1 : Int32))) (ty := .int) (C := RX0) (T := TX0) (N := 7) hx hb hts iX0 tyX0 tyX0_ok nmX0 hown hG.1 hP hD hS 0 rfl rfl 6 (Nat.le_of_ble_eq_true rfl) (hts _ tw_1_166) (fun _ h9 => h9) rfl (by decide +kernel) rfl rfl (Nat.le_of_ble_eq_true rfl) dX0_remember_38 (fun H locs hP hD hS => ?_)
      have hP : va_P G.1 vwCl (List.flatten [wA G aa s23, wB G bb σbb]) H := by rw [e24]; exact hP
      have hD : va_D A (List.flatten [wA G aa s23, wB G bb σbb]) := by rw [e24]; exact hD
      refine lv_aload_n hx hb dX0_remember_41 rfl (lv_at hl 0 rfl) ?_
      refine va_get (D := G.1) (cl := vwCl) (tys := tysG G) (ci := 0) (v := .int (s23.1 5)) (C := RX0) (T := TX0) (N := 7) hx hb hts iX0 hown hG.1 hP 0 rfl rfl 5 (Nat.le_of_ble_eq_true rfl) (hts _ tw_1_165) (fun _ h9 => h9) rfl dX0_remember_42 ?_
      refine lv_aload_n hx hb dX0_remember_45 rfl (lv_at hl 0 rfl) ?_
      refine va_get (D := G.1) (cl := vwCl) (tys := tysG G) (ci := 0) (v := .int (s23.1 6)) (C := RX0) (T := TX0) (N := 7) hx hb hts iX0 hown hG.1 hP 0 rfl rfl 6 (Nat.le_of_ble_eq_true rfl) (hts _ tw_1_166) (fun _ h9 => h9) rfl dX0_remember_46 ?_
      refine lv_iadd hx hb dX0_remember_49 ?_
      refine lv_bipush (v := 16) hx hb dX0_remember_50 lb_16 ?_
      refine lv_irem hx hb dX0_remember_52 (by decide) ?_
      obtain ⟨y25, e26, h⟩ := nm_ex h
      refine top_nm e26 ?_
      refine lv_istore (lv' := [(4, .int y25), (0, .ref (aa 0)), (1, .int x1), (2, .int x2), (3, .ref (bb 0))]) hx hb dX0_remember_53 hl (Nat.le_of_ble_eq_true rfl) rfl (fun ls hl => ?_)
      refine lv_aload_n hx hb dX0_remember_55 rfl (lv_at hl 1 rfl) ?_
      refine va_get (D := G.1) (cl := vwCl) (tys := tysG G) (ci := 0) (v := .ref (aa 1)) (C := RX0) (T := TX0) (N := 7) hx hb hts iX0 hown hG.1 hP 0 rfl rfl 0 (Nat.le_of_ble_eq_true rfl) (hts _ tw_1_160) (fun _ h9 => h9) rfl dX0_remember_56 ?_
      refine lv_iload hx hb dX0_remember_59 (lv_at hl 0 rfl) ?_
      refine lv_iload_n hx hb dX0_remember_61 rfl (lv_at hl 2 rfl) ?_
      obtain ⟨ck27, h⟩ := ck h
      obtain ⟨s28, e29, h⟩ := nm_ex h
      refine va_iast hx hb hG.1 hP hD hS 1 0 rfl rfl ck27 dX0_remember_62 (fun H locs hP hD hS => ?_)
      have hP : va_P G.1 vwCl (List.flatten [wA G aa s28, wB G bb σbb]) H := by rw [e29]; exact hP
      have hD : va_D A (List.flatten [wA G aa s28, wB G bb σbb]) := by rw [e29]; exact hD
      refine lv_aload_n hx hb dX0_remember_63 rfl (lv_at hl 1 rfl) ?_
      refine va_get (D := G.1) (cl := vwCl) (tys := tysG G) (ci := 0) (v := .ref (aa 2)) (C := RX0) (T := TX0) (N := 7) hx hb hts iX0 hown hG.1 hP 0 rfl rfl 1 (Nat.le_of_ble_eq_true rfl) (hts _ tw_1_161) (fun _ h9 => h9) rfl dX0_remember_64 ?_
      refine lv_iload hx hb dX0_remember_67 (lv_at hl 0 rfl) ?_
      refine lv_iload_n hx hb dX0_remember_69 rfl (lv_at hl 3 rfl) ?_
      obtain ⟨s30, e31, h⟩ := nm_ex h
      refine va_iast hx hb hG.1 hP hD hS 2 0 rfl rfl ck27 dX0_remember_70 (fun H locs hP hD hS => ?_)
      have hP : va_P G.1 vwCl (List.flatten [wA G aa s30, wB G bb σbb]) H := by rw [e31]; exact hP
      have hD : va_D A (List.flatten [wA G aa s30, wB G bb σbb]) := by rw [e31]; exact hD
      refine lv_aload_n hx hb dX0_remember_71 rfl (lv_at hl 1 rfl) ?_
      refine va_get (D := G.1) (cl := vwCl) (tys := tysG G) (ci := 0) (v := .ref (aa 3)) (C := RX0) (T := TX0) (N := 7) hx hb hts iX0 hown hG.1 hP 0 rfl rfl 2 (Nat.le_of_ble_eq_true rfl) (hts _ tw_1_162) (fun _ h9 => h9) rfl dX0_remember_72 ?_
      refine lv_iload hx hb dX0_remember_75 (lv_at hl 0 rfl) ?_
      refine lv_aload_n hx hb dX0_remember_77 rfl (lv_at hl 4 rfl) ?_
      refine va_get (D := G.1) (cl := vwCl) (tys := tysG G) (ci := 1) (v := .ref (bb 1)) (C := RX1) (T := TX1) (N := 4) hx hb hts iX1 hown hG.1 hP 6 rfl rfl 0 (Nat.le_of_ble_eq_true rfl) (hts _ tw_1_64) (fun _ h9 => h9) rfl dX0_remember_78 ?_
      refine lv_iload_n hx hb dX0_remember_81 rfl (lv_at hl 3 rfl) ?_
      obtain ⟨ck32, h⟩ := ck h
      refine va_iald hx hb hG.1 hP 7 0 rfl rfl ck32 dX0_remember_82 ?_
      obtain ⟨s33, e34, h⟩ := nm_ex h
      refine va_iast hx hb hG.1 hP hD hS 3 0 rfl rfl ck27 dX0_remember_83 (fun H locs hP hD hS => ?_)
      have hP : va_P G.1 vwCl (List.flatten [wA G aa s33, wB G bb σbb]) H := by rw [e34]; exact hP
      have hD : va_D A (List.flatten [wA G aa s33, wB G bb σbb]) := by rw [e34]; exact hD
      refine lv_aload_n hx hb dX0_remember_84 rfl (lv_at hl 1 rfl) ?_
      refine va_get (D := G.1) (cl := vwCl) (tys := tysG G) (ci := 0) (v := .ref (aa 4)) (C := RX0) (T := TX0) (N := 7) hx hb hts iX0 hown hG.1 hP 0 rfl rfl 3 (Nat.le_of_ble_eq_true rfl) (hts _ tw_1_163) (fun _ h9 => h9) rfl dX0_remember_85 ?_
      refine lv_iload hx hb dX0_remember_88 (lv_at hl 0 rfl) ?_
      refine lv_aload_n hx hb dX0_remember_90 rfl (lv_at hl 4 rfl) ?_
      refine va_get (D := G.1) (cl := vwCl) (tys := tysG G) (ci := 1) (v := .ref (bb 2)) (C := RX1) (T := TX1) (N := 4) hx hb hts iX1 hown hG.1 hP 6 rfl rfl 1 (Nat.le_of_ble_eq_true rfl) (hts _ tw_1_67) (fun _ h9 => h9) rfl dX0_remember_91 ?_
      refine lv_iload_n hx hb dX0_remember_94 rfl (lv_at hl 3 rfl) ?_
      refine va_iald hx hb hG.1 hP 8 0 rfl rfl ck32 dX0_remember_95 ?_
      obtain ⟨s35, e36, h⟩ := nm_ex h
      refine va_iast hx hb hG.1 hP hD hS 4 0 rfl rfl ck27 dX0_remember_96 (fun H locs hP hD hS => ?_)
      have hP : va_P G.1 vwCl (List.flatten [wA G aa s35, wB G bb σbb]) H := by rw [e36]; exact hP
      have hD : va_D A (List.flatten [wA G aa s35, wB G bb σbb]) := by rw [e36]; exact hD
      refine lv_aload_n hx hb dX0_remember_97 rfl (lv_at hl 1 rfl) ?_
      refine va_get (D := G.1) (cl := vwCl) (tys := tysG G) (ci := 0) (v := .ref (aa 5)) (C := RX0) (T := TX0) (N := 7) hx hb hts iX0 hown hG.1 hP 0 rfl rfl 4 (Nat.le_of_ble_eq_true rfl) (hts _ tw_1_164) (fun _ h9 => h9) rfl dX0_remember_98 ?_
      refine lv_iload hx hb dX0_remember_101 (lv_at hl 0 rfl) ?_
      refine lv_aload_n hx hb dX0_remember_103 rfl (lv_at hl 4 rfl) ?_
      refine va_get (D := G.1) (cl := vwCl) (tys := tysG G) (ci := 1) (v := .ref (bb 3)) (C := RX1) (T := TX1) (N := 4) hx hb hts iX1 hown hG.1 hP 6 rfl rfl 2 (Nat.le_of_ble_eq_true rfl) (hts _ tw_1_71) (fun _ h9 => h9) rfl dX0_remember_104 ?_
      refine lv_iload_n hx hb dX0_remember_107 rfl (lv_at hl 3 rfl) ?_
      refine va_iald hx hb hG.1 hP 9 0 rfl rfl ck32 dX0_remember_108 ?_
      obtain ⟨s37, e38, h⟩ := nm_ex h
      refine va_iast hx hb hG.1 hP hD hS 5 0 rfl rfl ck27 dX0_remember_109 (fun H locs hP hD hS => ?_)
      have hP : va_P G.1 vwCl (List.flatten [wA G aa s37, wB G bb σbb]) H := by rw [e38]; exact hP
      have hD : va_D A (List.flatten [wA G aa s37, wB G bb σbb]) := by rw [e38]; exact hD
      refine lv_aload_n hx hb dX0_remember_110 rfl (lv_at hl 1 rfl) ?_
      refine lv_dup hx hb dX0_remember_111 rfl ?_
      refine va_get (D := G.1) (cl := vwCl) (tys := tysG G) (ci := 0) (v := .int (s37.1 6)) (C := RX0) (T := TX0) (N := 7) hx hb hts iX0 hown hG.1 hP 0 rfl rfl 6 (Nat.le_of_ble_eq_true rfl) (hts _ tw_1_166) (fun _ h9 => h9) rfl dX0_remember_112 ?_
      refine lv_iconst (v := 1) hx hb dX0_remember_115 li_1 ?_
      refine lv_iadd hx hb dX0_remember_116 ?_
      obtain ⟨s39, e40, h⟩ := nm_ex h
      refine va_put (D := G.1) (cl := vwCl) (tys := tysG G) (ci := 0) (v := .int ((s37.1 6) + (1 : Int32))) (ty := .int) (C := RX0) (T := TX0) (N := 7) hx hb hts iX0 tyX0 tyX0_ok nmX0 hown hG.1 hP hD hS 0 rfl rfl 6 (Nat.le_of_ble_eq_true rfl) (hts _ tw_1_166) (fun _ h9 => h9) rfl (by decide +kernel) rfl rfl (Nat.le_of_ble_eq_true rfl) dX0_remember_117 (fun H locs hP hD hS => ?_)
      have hP : va_P G.1 vwCl (List.flatten [wA G aa s39, wB G bb σbb]) H := by rw [e40]; exact hP
      have hD : va_D A (List.flatten [wA G aa s39, wB G bb σbb]) := by rw [e40]; exact hD
      cases h
      exact rt_v K hP hD hS dX0_remember_120
  · have h := if_t c3 h
    cases h
    exact rt_v K hP hD hS dX0_remember_8
def fX0_undo (F : Nat) (σaa : ST) (σbb : ST)  : Option (ST × ST) :=
  if (σaa.1 6) = 0 then
    some (σaa, σbb)
  else
    nm (sI σaa 6 ((σaa.1 6) - (1 : Int32))) fun (s2 : ST) =>
    nm (((s2.1 5) + (s2.1 6)) - ((s2.1 5) + (s2.1 6)) / (16 : Int32) * (16 : Int32)) fun (y4 : Int32) =>
    if y4 < 0 ∨ 16 ≤ y4.toNatClampNeg then none else
    if (s2.2.1 0 y4.toNatClampNeg) = (2 : Int32) then
      if (s2.2.1 0 y4.toNatClampNeg) = 0 then
        some (s2, σbb)
      else
        (fX1_insert F σbb (s2.2.1 1 y4.toNatClampNeg) (s2.2.1 2 y4.toNatClampNeg) (s2.2.1 3 y4.toNatClampNeg) (s2.2.1 4 y4.toNatClampNeg)).bind fun r9 =>
        some (s2, r9)
    else
      (fX1_remove F σbb (s2.2.1 1 y4.toNatClampNeg)).bind fun r11 =>
      if (s2.2.1 0 y4.toNatClampNeg) = 0 then
        some (s2, r11)
      else
        (fX1_insert F r11 (s2.2.1 1 y4.toNatClampNeg) (s2.2.1 2 y4.toNatClampNeg) (s2.2.1 3 y4.toNatClampNeg) (s2.2.1 4 y4.toNatClampNeg)).bind fun r14 =>
        some (s2, r14)
theorem cdX0_undo : CallD yX0_undo 1 := by decide +kernel
set_option maxHeartbeats 4000000 in
set_option maxRecDepth 100000 in
theorem mX0_undo (l : Launch) (G : GP) (F : Nat) (aa : Nat → Nat) (bb : Nat → Nat) (σaa : ST) (σbb : ST)  {r : ST × ST} (h : fX0_undo F σaa σbb  = some r) : CC l G yX0_undo cX0_undo 3 none 4 [.ref (aa 0), .ref (bb 0)] (List.flatten [wA G aa σaa, wB G bb σbb]) (List.flatten [wA G aa r.1, wB G bb r.2]) none := by
  refine CC.of (by decide) (Nat.le_of_ble_eq_true rfl) ?_
  intro p e s m below meth c A K hP hD hS ls hl
  obtain ⟨hx, hb, hr, hml, hts, hown, hlocks, hA, hG⟩ := id K
  have hl : lv_has ls 3 [(0, .ref (aa 0)), (1, .ref (bb 0))] := hl
  unfold fX0_undo at h
  refine lv_aload_n hx hb dX0_undo_0 rfl (lv_at hl 0 rfl) ?_
  refine va_get (D := G.1) (cl := vwCl) (tys := tysG G) (ci := 0) (v := .int (σaa.1 6)) (C := RX0) (T := TX0) (N := 7) hx hb hts iX0 hown hG.1 hP 0 rfl rfl 6 (Nat.le_of_ble_eq_true rfl) (hts _ tw_1_166) (fun _ h9 => h9) rfl dX0_undo_1 ?_
  refine lv_if_ne (tgt := 8) hx hb dX0_undo_4 (by decide) (fun c1 => ?_) (fun c1 => ?_)
  · have h := if_f c1 h
    refine lv_aload_n hx hb dX0_undo_8 rfl (lv_at hl 0 rfl) ?_
    refine lv_dup hx hb dX0_undo_9 rfl ?_
    refine va_get (D := G.1) (cl := vwCl) (tys := tysG G) (ci := 0) (v := .int (σaa.1 6)) (C := RX0) (T := TX0) (N := 7) hx hb hts iX0 hown hG.1 hP 0 rfl rfl 6 (Nat.le_of_ble_eq_true rfl) (hts _ tw_1_166) (fun _ h9 => h9) rfl dX0_undo_10 ?_
    refine lv_iconst (v := 1) hx hb dX0_undo_13 li_1 ?_
    refine lv_isub hx hb dX0_undo_14 ?_
    obtain ⟨s2, e3, h⟩ := nm_ex h
    refine va_put (D := G.1) (cl := vwCl) (tys := tysG G) (ci := 0) (v := .int ((σaa.1 6) - (1 : Int32))) (ty := .int) (C := RX0) (T := TX0) (N := 7) hx hb hts iX0 tyX0 tyX0_ok nmX0 hown hG.1 hP hD hS 0 rfl rfl 6 (Nat.le_of_ble_eq_true rfl) (hts _ tw_1_166) (fun _ h9 => h9) rfl (by decide +kernel) rfl rfl (Nat.le_of_ble_eq_true rfl) dX0_undo_15 (fun H locs hP hD hS => ?_)
    have hP : va_P G.1 vwCl (List.flatten [wA G aa s2, wB G bb σbb]) H := by rw [e3]; exact hP
    have hD : va_D A (List.flatten [wA G aa s2, wB G bb σbb]) := by rw [e3]; exact hD
    refine lv_aload_n hx hb dX0_undo_18 rfl (lv_at hl 0 rfl) ?_
    refine va_get (D := G.1) (cl := vwCl) (tys := tysG G) (ci := 0) (v := .int (s2.1 5)) (C := RX0) (T := TX0) (N := 7) hx hb hts iX0 hown hG.1 hP 0 rfl rfl 5 (Nat.le_of_ble_eq_true rfl) (hts _ tw_1_165) (fun _ h9 => h9) rfl dX0_undo_19 ?_
    refine lv_aload_n hx hb dX0_undo_22 rfl (lv_at hl 0 rfl) ?_
    refine va_get (D := G.1) (cl := vwCl) (tys := tysG G) (ci := 0) (v := .int (s2.1 6)) (C := RX0) (T := TX0) (N := 7) hx hb hts iX0 hown hG.1 hP 0 rfl rfl 6 (Nat.le_of_ble_eq_true rfl) (hts _ tw_1_166) (fun _ h9 => h9) rfl dX0_undo_23 ?_
    refine lv_iadd hx hb dX0_undo_26 ?_
    refine lv_bipush (v := 16) hx hb dX0_undo_27 lb_16 ?_
    refine lv_irem hx hb dX0_undo_29 (by decide) ?_
    obtain ⟨y4, e5, h⟩ := nm_ex h
    refine top_nm e5 ?_
    refine lv_istore_n (lv' := [(2, .int y4), (0, .ref (aa 0)), (1, .ref (bb 0))]) hx hb dX0_undo_30 rfl hl (Nat.le_of_ble_eq_true rfl) rfl (fun ls hl => ?_)
    refine lv_aload_n hx hb dX0_undo_31 rfl (lv_at hl 1 rfl) ?_
    refine va_get (D := G.1) (cl := vwCl) (tys := tysG G) (ci := 0) (v := .ref (aa 1)) (C := RX0) (T := TX0) (N := 7) hx hb hts iX0 hown hG.1 hP 0 rfl rfl 0 (Nat.le_of_ble_eq_true rfl) (hts _ tw_1_160) (fun _ h9 => h9) rfl dX0_undo_32 ?_
    refine lv_iload_n hx hb dX0_undo_35 rfl (lv_at hl 0 rfl) ?_
    obtain ⟨ck6, h⟩ := ck h
    refine va_iald hx hb hG.1 hP 1 0 rfl rfl ck6 dX0_undo_36 ?_
    refine lv_iconst (v := 2) hx hb dX0_undo_37 li_2 ?_
    refine lv_icmp_eq (tgt := 51) hx hb dX0_undo_38 (by decide) (fun c7 => ?_) (fun c7 => ?_)
    · have h := if_t c7 h
      refine lv_aload_n hx hb dX0_undo_51 rfl (lv_at hl 1 rfl) ?_
      refine va_get (D := G.1) (cl := vwCl) (tys := tysG G) (ci := 0) (v := .ref (aa 1)) (C := RX0) (T := TX0) (N := 7) hx hb hts iX0 hown hG.1 hP 0 rfl rfl 0 (Nat.le_of_ble_eq_true rfl) (hts _ tw_1_160) (fun _ h9 => h9) rfl dX0_undo_52 ?_
      refine lv_iload_n hx hb dX0_undo_55 rfl (lv_at hl 0 rfl) ?_
      refine va_iald hx hb hG.1 hP 1 0 rfl rfl ck6 dX0_undo_56 ?_
      refine lv_if_eq (tgt := 88) hx hb dX0_undo_57 (by decide) (fun c8 => ?_) (fun c8 => ?_)
      · have h := if_t c8 h
        cases h
        exact rt_v K hP hD hS dX0_undo_88
      · have h := if_f c8 h
        refine lv_aload_n hx hb dX0_undo_60 rfl (lv_at hl 2 rfl) ?_
        refine lv_aload_n hx hb dX0_undo_61 rfl (lv_at hl 1 rfl) ?_
        refine va_get (D := G.1) (cl := vwCl) (tys := tysG G) (ci := 0) (v := .ref (aa 2)) (C := RX0) (T := TX0) (N := 7) hx hb hts iX0 hown hG.1 hP 0 rfl rfl 1 (Nat.le_of_ble_eq_true rfl) (hts _ tw_1_161) (fun _ h9 => h9) rfl dX0_undo_62 ?_
        refine lv_iload_n hx hb dX0_undo_65 rfl (lv_at hl 0 rfl) ?_
        refine va_iald hx hb hG.1 hP 2 0 rfl rfl ck6 dX0_undo_66 ?_
        refine lv_aload_n hx hb dX0_undo_67 rfl (lv_at hl 1 rfl) ?_
        refine va_get (D := G.1) (cl := vwCl) (tys := tysG G) (ci := 0) (v := .ref (aa 3)) (C := RX0) (T := TX0) (N := 7) hx hb hts iX0 hown hG.1 hP 0 rfl rfl 2 (Nat.le_of_ble_eq_true rfl) (hts _ tw_1_162) (fun _ h9 => h9) rfl dX0_undo_68 ?_
        refine lv_iload_n hx hb dX0_undo_71 rfl (lv_at hl 0 rfl) ?_
        refine va_iald hx hb hG.1 hP 3 0 rfl rfl ck6 dX0_undo_72 ?_
        refine lv_aload_n hx hb dX0_undo_73 rfl (lv_at hl 1 rfl) ?_
        refine va_get (D := G.1) (cl := vwCl) (tys := tysG G) (ci := 0) (v := .ref (aa 4)) (C := RX0) (T := TX0) (N := 7) hx hb hts iX0 hown hG.1 hP 0 rfl rfl 3 (Nat.le_of_ble_eq_true rfl) (hts _ tw_1_163) (fun _ h9 => h9) rfl dX0_undo_74 ?_
        refine lv_iload_n hx hb dX0_undo_77 rfl (lv_at hl 0 rfl) ?_
        refine va_iald hx hb hG.1 hP 4 0 rfl rfl ck6 dX0_undo_78 ?_
        refine lv_aload_n hx hb dX0_undo_79 rfl (lv_at hl 1 rfl) ?_
        refine va_get (D := G.1) (cl := vwCl) (tys := tysG G) (ci := 0) (v := .ref (aa 5)) (C := RX0) (T := TX0) (N := 7) hx hb hts iX0 hown hG.1 hP 0 rfl rfl 4 (Nat.le_of_ble_eq_true rfl) (hts _ tw_1_164) (fun _ h9 => h9) rfl dX0_undo_80 ?_
        refine lv_iload_n hx hb dX0_undo_83 rfl (lv_at hl 0 rfl) ?_
        refine va_iald hx hb hG.1 hP 5 0 rfl rfl ck6 dX0_undo_84 ?_
        obtain ⟨r9, hc10, h⟩ := bd_ex h
        refine sl_V (q0 := 6) (ci := 1) (C := RX1) K (mX1_insert l G F bb σbb (s2.2.1 1 y4.toNatClampNeg) (s2.2.1 2 y4.toNatClampNeg) (s2.2.1 3 y4.toNatClampNeg) (s2.2.1 4 y4.toNatClampNeg) hc10) tw_2_238 tw_1_5 tw_2_236 tw_2_237 tw_3_110 cdX1_insert ⟨Nat.le_of_ble_eq_true rfl, Nat.le_of_ble_eq_true rfl⟩ hP hD hS [1] rfl rfl rfl rfl rfl rfl rfl hl.1 (Nat.le_of_ble_eq_true rfl) ⟨Nat.zero_le _, Nat.zero_le _⟩ dX0_undo_85 (fun H locs hP hD hS => ?_)
        have hP : va_P G.1 vwCl (List.flatten [wA G aa s2, wB G bb r9]) H := hP
        have hD : va_D A (List.flatten [wA G aa s2, wB G bb r9]) := hD
        cases h
        exact rt_v K hP hD hS dX0_undo_88
    · have h := if_f c7 h
      refine lv_aload_n hx hb dX0_undo_41 rfl (lv_at hl 2 rfl) ?_
      refine lv_aload_n hx hb dX0_undo_42 rfl (lv_at hl 1 rfl) ?_
      refine va_get (D := G.1) (cl := vwCl) (tys := tysG G) (ci := 0) (v := .ref (aa 2)) (C := RX0) (T := TX0) (N := 7) hx hb hts iX0 hown hG.1 hP 0 rfl rfl 1 (Nat.le_of_ble_eq_true rfl) (hts _ tw_1_161) (fun _ h9 => h9) rfl dX0_undo_43 ?_
      refine lv_iload_n hx hb dX0_undo_46 rfl (lv_at hl 0 rfl) ?_
      refine va_iald hx hb hG.1 hP 2 0 rfl rfl ck6 dX0_undo_47 ?_
      obtain ⟨r11, hc12, h⟩ := bd_ex h
      refine sl_V (q0 := 6) (ci := 1) (C := RX1) K (mX1_remove l G F bb σbb (s2.2.1 1 y4.toNatClampNeg) hc12) tw_3_99 tw_1_5 tw_3_97 tw_3_98 tw_3_109 cdX1_remove ⟨Nat.le_of_ble_eq_true rfl, Nat.le_of_ble_eq_true rfl⟩ hP hD hS [1] rfl rfl rfl rfl rfl rfl rfl hl.1 (Nat.le_of_ble_eq_true rfl) ⟨Nat.zero_le _, Nat.zero_le _⟩ dX0_undo_48 (fun H locs hP hD hS => ?_)
      have hP : va_P G.1 vwCl (List.flatten [wA G aa s2, wB G bb r11]) H := hP
      have hD : va_D A (List.flatten [wA G aa s2, wB G bb r11]) := hD
      refine lv_aload_n hx hb dX0_undo_51 rfl (lv_at hl 1 rfl) ?_
      refine va_get (D := G.1) (cl := vwCl) (tys := tysG G) (ci := 0) (v := .ref (aa 1)) (C := RX0) (T := TX0) (N := 7) hx hb hts iX0 hown hG.1 hP 0 rfl rfl 0 (Nat.le_of_ble_eq_true rfl) (hts _ tw_1_160) (fun _ h9 => h9) rfl dX0_undo_52 ?_
      refine lv_iload_n hx hb dX0_undo_55 rfl (lv_at hl 0 rfl) ?_
      refine va_iald hx hb hG.1 hP 1 0 rfl rfl ck6 dX0_undo_56 ?_
      refine lv_if_eq (tgt := 88) hx hb dX0_undo_57 (by decide) (fun c13 => ?_) (fun c13 => ?_)
      · have h := if_t c13 h
        cases h
        exact rt_v K hP hD hS dX0_undo_88
      · have h := if_f c13 h
        refine lv_aload_n hx hb dX0_undo_60 rfl (lv_at hl 2 rfl) ?_
        refine lv_aload_n hx hb dX0_undo_61 rfl (lv_at hl 1 rfl) ?_
        refine va_get (D := G.1) (cl := vwCl) (tys := tysG G) (ci := 0) (v := .ref (aa 2)) (C := RX0) (T := TX0) (N := 7) hx hb hts iX0 hown hG.1 hP 0 rfl rfl 1 (Nat.le_of_ble_eq_true rfl) (hts _ tw_1_161) (fun _ h9 => h9) rfl dX0_undo_62 ?_
        refine lv_iload_n hx hb dX0_undo_65 rfl (lv_at hl 0 rfl) ?_
        refine va_iald hx hb hG.1 hP 2 0 rfl rfl ck6 dX0_undo_66 ?_
        refine lv_aload_n hx hb dX0_undo_67 rfl (lv_at hl 1 rfl) ?_
        refine va_get (D := G.1) (cl := vwCl) (tys := tysG G) (ci := 0) (v := .ref (aa 3)) (C := RX0) (T := TX0) (N := 7) hx hb hts iX0 hown hG.1 hP 0 rfl rfl 2 (Nat.le_of_ble_eq_true rfl) (hts _ tw_1_162) (fun _ h9 => h9) rfl dX0_undo_68 ?_
        refine lv_iload_n hx hb dX0_undo_71 rfl (lv_at hl 0 rfl) ?_
        refine va_iald hx hb hG.1 hP 3 0 rfl rfl ck6 dX0_undo_72 ?_
        refine lv_aload_n hx hb dX0_undo_73 rfl (lv_at hl 1 rfl) ?_
        refine va_get (D := G.1) (cl := vwCl) (tys := tysG G) (ci := 0) (v := .ref (aa 4)) (C := RX0) (T := TX0) (N := 7) hx hb hts iX0 hown hG.1 hP 0 rfl rfl 3 (Nat.le_of_ble_eq_true rfl) (hts _ tw_1_163) (fun _ h9 => h9) rfl dX0_undo_74 ?_
        refine lv_iload_n hx hb dX0_undo_77 rfl (lv_at hl 0 rfl) ?_
        refine va_iald hx hb hG.1 hP 4 0 rfl rfl ck6 dX0_undo_78 ?_
        refine lv_aload_n hx hb dX0_undo_79 rfl (lv_at hl 1 rfl) ?_
        refine va_get (D := G.1) (cl := vwCl) (tys := tysG G) (ci := 0) (v := .ref (aa 5)) (C := RX0) (T := TX0) (N := 7) hx hb hts iX0 hown hG.1 hP 0 rfl rfl 4 (Nat.le_of_ble_eq_true rfl) (hts _ tw_1_164) (fun _ h9 => h9) rfl dX0_undo_80 ?_
        refine lv_iload_n hx hb dX0_undo_83 rfl (lv_at hl 0 rfl) ?_
        refine va_iald hx hb hG.1 hP 5 0 rfl rfl ck6 dX0_undo_84 ?_
        obtain ⟨r14, hc15, h⟩ := bd_ex h
        refine sl_V (q0 := 6) (ci := 1) (C := RX1) K (mX1_insert l G F bb r11 (s2.2.1 1 y4.toNatClampNeg) (s2.2.1 2 y4.toNatClampNeg) (s2.2.1 3 y4.toNatClampNeg) (s2.2.1 4 y4.toNatClampNeg) hc15) tw_2_238 tw_1_5 tw_2_236 tw_2_237 tw_3_110 cdX1_insert ⟨Nat.le_of_ble_eq_true rfl, Nat.le_of_ble_eq_true rfl⟩ hP hD hS [1] rfl rfl rfl rfl rfl rfl rfl hl.1 (Nat.le_of_ble_eq_true rfl) ⟨Nat.zero_le _, Nat.zero_le _⟩ dX0_undo_85 (fun H locs hP hD hS => ?_)
        have hP : va_P G.1 vwCl (List.flatten [wA G aa s2, wB G bb r14]) H := hP
        have hD : va_D A (List.flatten [wA G aa s2, wB G bb r14]) := hD
        cases h
        exact rt_v K hP hD hS dX0_undo_88
  · have h := if_t c1 h
    cases h
    exact rt_v K hP hD hS dX0_undo_7
def fX7_add (F : Nat) (σss : ST) (x1 : Int32) (x2 : Int32) : Option (ST) :=
  if (6 : Int32) ≤ (σss.1 2) then
    some σss
  else
    if (σss.1 2) < 0 ∨ 6 ≤ (σss.1 2).toNatClampNeg then none else
    nm (sA σss 0 (σss.1 2).toNatClampNeg x1) fun (s3 : ST) =>
    if (s3.1 2) < 0 ∨ 6 ≤ (s3.1 2).toNatClampNeg then none else
    nm (sA s3 1 (s3.1 2).toNatClampNeg x2) fun (s6 : ST) =>
    nm (sI s6 2 ((s6.1 2) + (1 : Int32))) fun (s8 : ST) =>
    some s8
theorem cdX7_add : CallD yX7_add 2 := by decide +kernel
set_option maxHeartbeats 4000000 in
set_option maxRecDepth 100000 in
theorem mX7_add (l : Launch) (G : GP) (F : Nat) (ss : Nat → Nat) (σss : ST) (x1 : Int32) (x2 : Int32) {r : ST} (h : fX7_add F σss x1 x2 = some r) : CC l G yX7_add cX7_add 3 none 1 [.ref (ss 0), .int x1, .int x2] (List.flatten [wS G ss σss]) (List.flatten [wS G ss r]) none := by
  refine CC.of (by decide) (Nat.le_of_ble_eq_true rfl) ?_
  intro p e s m below meth c A K hP hD hS ls hl
  obtain ⟨hx, hb, hr, hml, hts, hown, hlocks, hA, hG⟩ := id K
  have hl : lv_has ls 3 [(0, .ref (ss 0)), (1, .int x1), (2, .int x2)] := hl
  unfold fX7_add at h
  refine lv_aload_n hx hb dX7_add_0 rfl (lv_at hl 0 rfl) ?_
  refine va_get (D := G.1) (cl := vwCl) (tys := tysG G) (ci := 7) (v := .int (σss.1 2)) (C := RX7) (T := TX7) (N := 3) hx hb hts iX7 hown hG.1 hP 0 rfl rfl 2 (Nat.le_of_ble_eq_true rfl) (hts _ tw_1_216) (fun _ h9 => h9) rfl dX7_add_1 ?_
  refine lv_bipush (v := 6) hx hb dX7_add_4 lb_6 ?_
  refine lv_icmp_ge (tgt := 39) hx hb dX7_add_6 (by decide) (fun c1 => ?_) (fun c1 => ?_)
  · have h := if_t c1 h
    cases h
    exact rt_v K hP hD hS dX7_add_39
  · have h := if_f c1 h
    refine lv_aload_n hx hb dX7_add_9 rfl (lv_at hl 0 rfl) ?_
    refine va_get (D := G.1) (cl := vwCl) (tys := tysG G) (ci := 7) (v := .ref (ss 1)) (C := RX7) (T := TX7) (N := 3) hx hb hts iX7 hown hG.1 hP 0 rfl rfl 0 (Nat.le_of_ble_eq_true rfl) (hts _ tw_1_212) (fun _ h9 => h9) rfl dX7_add_10 ?_
    refine lv_aload_n hx hb dX7_add_13 rfl (lv_at hl 0 rfl) ?_
    refine va_get (D := G.1) (cl := vwCl) (tys := tysG G) (ci := 7) (v := .int (σss.1 2)) (C := RX7) (T := TX7) (N := 3) hx hb hts iX7 hown hG.1 hP 0 rfl rfl 2 (Nat.le_of_ble_eq_true rfl) (hts _ tw_1_216) (fun _ h9 => h9) rfl dX7_add_14 ?_
    refine lv_iload_n hx hb dX7_add_17 rfl (lv_at hl 1 rfl) ?_
    obtain ⟨ck2, h⟩ := ck h
    obtain ⟨s3, e4, h⟩ := nm_ex h
    refine va_iast hx hb hG.1 hP hD hS 1 0 rfl rfl ck2 dX7_add_18 (fun H locs hP hD hS => ?_)
    have hP : va_P G.1 vwCl (List.flatten [wS G ss s3]) H := by rw [e4]; exact hP
    have hD : va_D A (List.flatten [wS G ss s3]) := by rw [e4]; exact hD
    refine lv_aload_n hx hb dX7_add_19 rfl (lv_at hl 0 rfl) ?_
    refine va_get (D := G.1) (cl := vwCl) (tys := tysG G) (ci := 7) (v := .ref (ss 2)) (C := RX7) (T := TX7) (N := 3) hx hb hts iX7 hown hG.1 hP 0 rfl rfl 1 (Nat.le_of_ble_eq_true rfl) (hts _ tw_1_214) (fun _ h9 => h9) rfl dX7_add_20 ?_
    refine lv_aload_n hx hb dX7_add_23 rfl (lv_at hl 0 rfl) ?_
    refine va_get (D := G.1) (cl := vwCl) (tys := tysG G) (ci := 7) (v := .int (s3.1 2)) (C := RX7) (T := TX7) (N := 3) hx hb hts iX7 hown hG.1 hP 0 rfl rfl 2 (Nat.le_of_ble_eq_true rfl) (hts _ tw_1_216) (fun _ h9 => h9) rfl dX7_add_24 ?_
    refine lv_iload_n hx hb dX7_add_27 rfl (lv_at hl 2 rfl) ?_
    obtain ⟨ck5, h⟩ := ck h
    obtain ⟨s6, e7, h⟩ := nm_ex h
    refine va_iast hx hb hG.1 hP hD hS 2 0 rfl rfl ck5 dX7_add_28 (fun H locs hP hD hS => ?_)
    have hP : va_P G.1 vwCl (List.flatten [wS G ss s6]) H := by rw [e7]; exact hP
    have hD : va_D A (List.flatten [wS G ss s6]) := by rw [e7]; exact hD
    refine lv_aload_n hx hb dX7_add_29 rfl (lv_at hl 0 rfl) ?_
    refine lv_dup hx hb dX7_add_30 rfl ?_
    refine va_get (D := G.1) (cl := vwCl) (tys := tysG G) (ci := 7) (v := .int (s6.1 2)) (C := RX7) (T := TX7) (N := 3) hx hb hts iX7 hown hG.1 hP 0 rfl rfl 2 (Nat.le_of_ble_eq_true rfl) (hts _ tw_1_216) (fun _ h9 => h9) rfl dX7_add_31 ?_
    refine lv_iconst (v := 1) hx hb dX7_add_34 li_1 ?_
    refine lv_iadd hx hb dX7_add_35 ?_
    obtain ⟨s8, e9, h⟩ := nm_ex h
    refine va_put (D := G.1) (cl := vwCl) (tys := tysG G) (ci := 7) (v := .int ((s6.1 2) + (1 : Int32))) (ty := .int) (C := RX7) (T := TX7) (N := 3) hx hb hts iX7 tyX7 tyX7_ok nmX7 hown hG.1 hP hD hS 0 rfl rfl 2 (Nat.le_of_ble_eq_true rfl) (hts _ tw_1_216) (fun _ h9 => h9) rfl (by decide +kernel) rfl rfl (Nat.le_of_ble_eq_true rfl) dX7_add_36 (fun H locs hP hD hS => ?_)
    have hP : va_P G.1 vwCl (List.flatten [wS G ss s8]) H := by rw [e9]; exact hP
    have hD : va_D A (List.flatten [wS G ss s8]) := by rw [e9]; exact hD
    cases h
    exact rt_v K hP hD hS dX7_add_39
def gbX7_copyFrom_10 (F : Nat) (σoo : ST) (rc : Int32 → ST → Option (Int32 × ST)) (v2 : Int32) (σss : ST) : Option (Int32 × ST) :=
  if (σss.1 2) ≤ v2 then
    some (v2, σss)
  else
    if v2 < 0 ∨ 6 ≤ v2.toNatClampNeg then none else
    nm (sA σss 0 v2.toNatClampNeg (σoo.2.1 0 v2.toNatClampNeg)) fun (s5 : ST) =>
    nm (sA s5 1 v2.toNatClampNeg (σoo.2.1 1 v2.toNatClampNeg)) fun (s7 : ST) =>
    rc (v2 + 1) s7
def gX7_copyFrom_10 (F : Nat) (σoo : ST) : Nat → Int32 → ST → Option (Int32 × ST)
  | 0, _, _ => none
  | n + 1, v2, σss => gbX7_copyFrom_10 F σoo (gX7_copyFrom_10 F σoo n) v2 σss
set_option maxHeartbeats 4000000 in
set_option maxRecDepth 100000 in
theorem kX7_copyFrom_10 {p : Program} {l : Launch} {e : Env} {s : State} {m : MethodId} {args : Array Value} {below : List Frame} {meth : Method} {c : Code} {A : Nat → Prop} {Q : State → Prop} {G : GP} (K : Cx p s m meth c G cX7_copyFrom RX7 3 none args A) (F : Nat) (ss : Nat → Nat) (oo : Nat → Nat) (σoo : ST) {z : Int32 × ST} (kk : ∀ (H : Heap) (locs : List Loc) (ls : Array Slot), va_P G.1 vwCl (List.flatten [wS G ss z.2, wS G oo σoo]) H → va_D A (List.flatten [wS G ss z.2, wS G oo σoo]) → va_S A s.heap H locs → lv_has ls 3 [(0, .ref (ss 0)), (1, .ref (oo 0)), (2, .int z.1)] → W p l e (RM 1) s m args below meth c H locs 0 0 Q (F0 m 48 ls [])) :
    ∀ (n : Nat) (v2 : Int32) (σss : ST) (H : Heap) (locs : List Loc) (ls : Array Slot), va_P G.1 vwCl (List.flatten [wS G ss σss, wS G oo σoo]) H → va_D A (List.flatten [wS G ss σss, wS G oo σoo]) → va_S A s.heap H locs → lv_has ls 3 [(0, .ref (ss 0)), (1, .ref (oo 0)), (2, .int v2)] → gX7_copyFrom_10 F σoo n v2 σss = some z → W p l e (RM 1) s m args below meth c H locs 0 0 Q (F0 m 10 ls []) := by
  obtain ⟨hx, hb, hr, hml, hts, hown, hlocks, hA, hG⟩ := id K
  intro n
  induction n with
  | zero =>
    intro v2 σss H locs ls hP hD hS hl h
    have h : none = some z := h
    cases h
  | succ n ih =>
    intro v2 σss H locs ls hP hD hS hl h
    have h : gbX7_copyFrom_10 F σoo (gX7_copyFrom_10 F σoo n) v2 σss = some z := h
    unfold gbX7_copyFrom_10 at h
    refine lv_iload_n hx hb dX7_copyFrom_10 rfl (lv_at hl 2 rfl) ?_
    refine lv_aload_n hx hb dX7_copyFrom_11 rfl (lv_at hl 0 rfl) ?_
    refine va_get (D := G.1) (cl := vwCl) (tys := tysG G) (ci := 7) (v := .int (σss.1 2)) (C := RX7) (T := TX7) (N := 3) hx hb hts iX7 hown hG.1 hP 0 rfl rfl 2 (Nat.le_of_ble_eq_true rfl) (hts _ tw_1_216) (fun _ h9 => h9) rfl dX7_copyFrom_12 ?_
    refine lv_icmp_ge (tgt := 48) hx hb dX7_copyFrom_15 (by decide) (fun c3 => ?_) (fun c3 => ?_)
    · have h := if_t c3 h
      cases h
      exact kk _ _ _ hP hD hS (lv_sub hl [0, 1, 2] rfl)
    · have h := if_f c3 h
      refine lv_aload_n hx hb dX7_copyFrom_18 rfl (lv_at hl 0 rfl) ?_
      refine va_get (D := G.1) (cl := vwCl) (tys := tysG G) (ci := 7) (v := .ref (ss 1)) (C := RX7) (T := TX7) (N := 3) hx hb hts iX7 hown hG.1 hP 0 rfl rfl 0 (Nat.le_of_ble_eq_true rfl) (hts _ tw_1_212) (fun _ h9 => h9) rfl dX7_copyFrom_19 ?_
      refine lv_iload_n hx hb dX7_copyFrom_22 rfl (lv_at hl 2 rfl) ?_
      refine lv_aload_n hx hb dX7_copyFrom_23 rfl (lv_at hl 1 rfl) ?_
      refine va_get (D := G.1) (cl := vwCl) (tys := tysG G) (ci := 7) (v := .ref (oo 1)) (C := RX7) (T := TX7) (N := 3) hx hb hts iX7 hown hG.1 hP 3 rfl rfl 0 (Nat.le_of_ble_eq_true rfl) (hts _ tw_1_212) (fun _ h9 => h9) rfl dX7_copyFrom_24 ?_
      refine lv_iload_n hx hb dX7_copyFrom_27 rfl (lv_at hl 2 rfl) ?_
      obtain ⟨ck4, h⟩ := ck h
      refine va_iald hx hb hG.1 hP 4 0 rfl rfl ck4 dX7_copyFrom_28 ?_
      obtain ⟨s5, e6, h⟩ := nm_ex h
      refine va_iast hx hb hG.1 hP hD hS 1 0 rfl rfl ck4 dX7_copyFrom_29 (fun H locs hP hD hS => ?_)
      have hP : va_P G.1 vwCl (List.flatten [wS G ss s5, wS G oo σoo]) H := by rw [e6]; exact hP
      have hD : va_D A (List.flatten [wS G ss s5, wS G oo σoo]) := by rw [e6]; exact hD
      refine lv_aload_n hx hb dX7_copyFrom_30 rfl (lv_at hl 0 rfl) ?_
      refine va_get (D := G.1) (cl := vwCl) (tys := tysG G) (ci := 7) (v := .ref (ss 2)) (C := RX7) (T := TX7) (N := 3) hx hb hts iX7 hown hG.1 hP 0 rfl rfl 1 (Nat.le_of_ble_eq_true rfl) (hts _ tw_1_214) (fun _ h9 => h9) rfl dX7_copyFrom_31 ?_
      refine lv_iload_n hx hb dX7_copyFrom_34 rfl (lv_at hl 2 rfl) ?_
      refine lv_aload_n hx hb dX7_copyFrom_35 rfl (lv_at hl 1 rfl) ?_
      refine va_get (D := G.1) (cl := vwCl) (tys := tysG G) (ci := 7) (v := .ref (oo 2)) (C := RX7) (T := TX7) (N := 3) hx hb hts iX7 hown hG.1 hP 3 rfl rfl 1 (Nat.le_of_ble_eq_true rfl) (hts _ tw_1_214) (fun _ h9 => h9) rfl dX7_copyFrom_36 ?_
      refine lv_iload_n hx hb dX7_copyFrom_39 rfl (lv_at hl 2 rfl) ?_
      refine va_iald hx hb hG.1 hP 5 0 rfl rfl ck4 dX7_copyFrom_40 ?_
      obtain ⟨s7, e8, h⟩ := nm_ex h
      refine va_iast hx hb hG.1 hP hD hS 2 0 rfl rfl ck4 dX7_copyFrom_41 (fun H locs hP hD hS => ?_)
      have hP : va_P G.1 vwCl (List.flatten [wS G ss s7, wS G oo σoo]) H := by rw [e8]; exact hP
      have hD : va_D A (List.flatten [wS G ss s7, wS G oo σoo]) := by rw [e8]; exact hD
      refine lv_iinc (v := v2 + 1) (lv' := [(2, .int (v2 + 1)), (0, .ref (ss 0)), (1, .ref (oo 0))]) hx hb dX7_copyFrom_42 hl (k := 2) rfl (by rw [li_1]) (Nat.le_of_ble_eq_true rfl) rfl (fun ls hl => ?_)
      refine lv_goto (tgt := 10) hx hb dX7_copyFrom_45 (by decide) ?_
      exact ih (v2 + 1) s7 _ _ _ hP hD hS (lv_sub hl [1, 2, 0] rfl) h
def fX7_copyFrom (F : Nat) (σss : ST) (σoo : ST)  : Option (ST) :=
  nm (sI σss 2 (σoo.1 2)) fun (s1 : ST) =>
  (gX7_copyFrom_10 F σoo F (0 : Int32) s1).bind fun z9 =>
    some z9.2
theorem cdX7_copyFrom : CallD yX7_copyFrom 1 := by decide +kernel
set_option maxHeartbeats 4000000 in
set_option maxRecDepth 100000 in
theorem mX7_copyFrom (l : Launch) (G : GP) (F : Nat) (ss : Nat → Nat) (oo : Nat → Nat) (σss : ST) (σoo : ST)  {r : ST} (h : fX7_copyFrom F σss σoo  = some r) : CC l G yX7_copyFrom cX7_copyFrom 3 none 1 [.ref (ss 0), .ref (oo 0)] (List.flatten [wS G ss σss, wS G oo σoo]) (List.flatten [wS G ss r, wS G oo σoo]) none := by
  refine CC.of (by decide) (Nat.le_of_ble_eq_true rfl) ?_
  intro p e s m below meth c A K hP hD hS ls hl
  obtain ⟨hx, hb, hr, hml, hts, hown, hlocks, hA, hG⟩ := id K
  have hl : lv_has ls 3 [(0, .ref (ss 0)), (1, .ref (oo 0))] := hl
  unfold fX7_copyFrom at h
  refine lv_aload_n hx hb dX7_copyFrom_0 rfl (lv_at hl 0 rfl) ?_
  refine lv_aload_n hx hb dX7_copyFrom_1 rfl (lv_at hl 1 rfl) ?_
  refine va_get (D := G.1) (cl := vwCl) (tys := tysG G) (ci := 7) (v := .int (σoo.1 2)) (C := RX7) (T := TX7) (N := 3) hx hb hts iX7 hown hG.1 hP 3 rfl rfl 2 (Nat.le_of_ble_eq_true rfl) (hts _ tw_1_216) (fun _ h9 => h9) rfl dX7_copyFrom_2 ?_
  obtain ⟨s1, e2, h⟩ := nm_ex h
  refine va_put (D := G.1) (cl := vwCl) (tys := tysG G) (ci := 7) (v := .int (σoo.1 2)) (ty := .int) (C := RX7) (T := TX7) (N := 3) hx hb hts iX7 tyX7 tyX7_ok nmX7 hown hG.1 hP hD hS 0 rfl rfl 2 (Nat.le_of_ble_eq_true rfl) (hts _ tw_1_216) (fun _ h9 => h9) rfl (by decide +kernel) rfl rfl (Nat.le_of_ble_eq_true rfl) dX7_copyFrom_5 (fun H locs hP hD hS => ?_)
  have hP : va_P G.1 vwCl (List.flatten [wS G ss s1, wS G oo σoo]) H := by rw [e2]; exact hP
  have hD : va_D A (List.flatten [wS G ss s1, wS G oo σoo]) := by rw [e2]; exact hD
  refine lv_iconst (v := 0) hx hb dX7_copyFrom_8 li_0 ?_
  refine lv_istore_n (lv' := [(2, .int (0 : Int32)), (0, .ref (ss 0)), (1, .ref (oo 0))]) hx hb dX7_copyFrom_9 rfl hl (Nat.le_of_ble_eq_true rfl) rfl (fun ls hl => ?_)
  obtain ⟨z9, hz10, h⟩ := bd_ex h
  refine kX7_copyFrom_10 K F ss oo σoo (fun H locs ls hP hD hS hl => ?_) F (0 : Int32) s1 _ _ _ hP hD hS (lv_sub hl [1, 2, 0] rfl) hz10
  cases h
  exact rt_v K hP hD hS dX7_copyFrom_48
def fX9_add (F : Nat) (σtt : ST) (x1 : Int32) : Option (ST) :=
  if (92 : Int32) ≤ (σtt.1 1) then
    some σtt
  else
    if (σtt.1 1) < 0 ∨ 92 ≤ (σtt.1 1).toNatClampNeg then none else
    nm (sA σtt 0 (σtt.1 1).toNatClampNeg (vp_nar .byte x1.toInt8.toInt32)) fun (s3 : ST) =>
    nm (sI s3 1 ((s3.1 1) + (1 : Int32))) fun (s5 : ST) =>
    some s5
theorem cdX9_add : CallD yX9_add 1 := by decide +kernel
set_option maxHeartbeats 4000000 in
set_option maxRecDepth 100000 in
theorem mX9_add (l : Launch) (G : GP) (F : Nat) (tt : Nat → Nat) (σtt : ST) (x1 : Int32) {r : ST} (h : fX9_add F σtt x1 = some r) : CC l G yX9_add cX9_add 2 none 1 [.ref (tt 0), .int x1] (List.flatten [wT G tt σtt]) (List.flatten [wT G tt r]) none := by
  refine CC.of (by decide) (Nat.le_of_ble_eq_true rfl) ?_
  intro p e s m below meth c A K hP hD hS ls hl
  obtain ⟨hx, hb, hr, hml, hts, hown, hlocks, hA, hG⟩ := id K
  have hl : lv_has ls 2 [(0, .ref (tt 0)), (1, .int x1)] := hl
  unfold fX9_add at h
  refine lv_aload_n hx hb dX9_add_0 rfl (lv_at hl 0 rfl) ?_
  refine va_get (D := G.1) (cl := vwCl) (tys := tysG G) (ci := 9) (v := .int (σtt.1 1)) (C := RX9) (T := TX9) (N := 2) hx hb hts iX9 hown hG.1 hP 0 rfl rfl 1 (Nat.le_of_ble_eq_true rfl) (hts _ tw_1_36) (fun _ h9 => h9) rfl dX9_add_1 ?_
  refine lv_bipush (v := 92) hx hb dX9_add_4 lb_92 ?_
  refine lv_icmp_ge (tgt := 30) hx hb dX9_add_6 (by decide) (fun c1 => ?_) (fun c1 => ?_)
  · have h := if_t c1 h
    cases h
    exact rt_v K hP hD hS dX9_add_30
  · have h := if_f c1 h
    refine lv_aload_n hx hb dX9_add_9 rfl (lv_at hl 0 rfl) ?_
    refine va_get (D := G.1) (cl := vwCl) (tys := tysG G) (ci := 9) (v := .ref (tt 1)) (C := RX9) (T := TX9) (N := 2) hx hb hts iX9 hown hG.1 hP 0 rfl rfl 0 (Nat.le_of_ble_eq_true rfl) (hts _ tw_1_34) (fun _ h9 => h9) rfl dX9_add_10 ?_
    refine lv_aload_n hx hb dX9_add_13 rfl (lv_at hl 0 rfl) ?_
    refine va_get (D := G.1) (cl := vwCl) (tys := tysG G) (ci := 9) (v := .int (σtt.1 1)) (C := RX9) (T := TX9) (N := 2) hx hb hts iX9 hown hG.1 hP 0 rfl rfl 1 (Nat.le_of_ble_eq_true rfl) (hts _ tw_1_36) (fun _ h9 => h9) rfl dX9_add_14 ?_
    refine lv_iload_n hx hb dX9_add_17 rfl (lv_at hl 1 rfl) ?_
    refine lv_i2b (v := x1.toInt8.toInt32) hx hb dX9_add_18 rfl ?_
    obtain ⟨ck2, h⟩ := ck h
    obtain ⟨s3, e4, h⟩ := nm_ex h
    refine va_bast hx hb hG.1 hP hD hS 1 3 rfl rfl ck2 dX9_add_19 (fun H locs hP hD hS => ?_)
    have hP : va_P G.1 vwCl (List.flatten [wT G tt s3]) H := by rw [e4]; exact hP
    have hD : va_D A (List.flatten [wT G tt s3]) := by rw [e4]; exact hD
    refine lv_aload_n hx hb dX9_add_20 rfl (lv_at hl 0 rfl) ?_
    refine lv_dup hx hb dX9_add_21 rfl ?_
    refine va_get (D := G.1) (cl := vwCl) (tys := tysG G) (ci := 9) (v := .int (s3.1 1)) (C := RX9) (T := TX9) (N := 2) hx hb hts iX9 hown hG.1 hP 0 rfl rfl 1 (Nat.le_of_ble_eq_true rfl) (hts _ tw_1_36) (fun _ h9 => h9) rfl dX9_add_22 ?_
    refine lv_iconst (v := 1) hx hb dX9_add_25 li_1 ?_
    refine lv_iadd hx hb dX9_add_26 ?_
    obtain ⟨s5, e6, h⟩ := nm_ex h
    refine va_put (D := G.1) (cl := vwCl) (tys := tysG G) (ci := 9) (v := .int ((s3.1 1) + (1 : Int32))) (ty := .int) (C := RX9) (T := TX9) (N := 2) hx hb hts iX9 tyX9 tyX9_ok nmX9 hown hG.1 hP hD hS 0 rfl rfl 1 (Nat.le_of_ble_eq_true rfl) (hts _ tw_1_36) (fun _ h9 => h9) rfl (by decide +kernel) rfl rfl (Nat.le_of_ble_eq_true rfl) dX9_add_27 (fun H locs hP hD hS => ?_)
    have hP : va_P G.1 vwCl (List.flatten [wT G tt s5]) H := by rw [e6]; exact hP
    have hD : va_D A (List.flatten [wT G tt s5]) := by rw [e6]; exact hD
    cases h
    exact rt_v K hP hD hS dX9_add_30
def fX6_add (F : Nat) (σrr : ST) (x1 : Int32) (x2 : Int32) (x3 : Int32) : Option (ST) :=
  if (30 : Int32) ≤ (σrr.1 3) then
    some σrr
  else
    if (σrr.1 3) < 0 ∨ 30 ≤ (σrr.1 3).toNatClampNeg then none else
    nm (sA σrr 0 (σrr.1 3).toNatClampNeg x1) fun (s3 : ST) =>
    if (s3.1 3) < 0 ∨ 30 ≤ (s3.1 3).toNatClampNeg then none else
    nm (sA s3 1 (s3.1 3).toNatClampNeg x2) fun (s6 : ST) =>
    if (s6.1 3) < 0 ∨ 30 ≤ (s6.1 3).toNatClampNeg then none else
    nm (sA s6 2 (s6.1 3).toNatClampNeg x3) fun (s9 : ST) =>
    nm (sI s9 3 ((s9.1 3) + (1 : Int32))) fun (s11 : ST) =>
    some s11
theorem cdX6_add : CallD yX6_add 3 := by decide +kernel
set_option maxHeartbeats 4000000 in
set_option maxRecDepth 100000 in
theorem mX6_add (l : Launch) (G : GP) (F : Nat) (rr : Nat → Nat) (σrr : ST) (x1 : Int32) (x2 : Int32) (x3 : Int32) {r : ST} (h : fX6_add F σrr x1 x2 x3 = some r) : CC l G yX6_add cX6_add 4 none 1 [.ref (rr 0), .int x1, .int x2, .int x3] (List.flatten [wR G rr σrr]) (List.flatten [wR G rr r]) none := by
  refine CC.of (by decide) (Nat.le_of_ble_eq_true rfl) ?_
  intro p e s m below meth c A K hP hD hS ls hl
  obtain ⟨hx, hb, hr, hml, hts, hown, hlocks, hA, hG⟩ := id K
  have hl : lv_has ls 4 [(0, .ref (rr 0)), (1, .int x1), (2, .int x2), (3, .int x3)] := hl
  unfold fX6_add at h
  refine lv_aload_n hx hb dX6_add_0 rfl (lv_at hl 0 rfl) ?_
  refine va_get (D := G.1) (cl := vwCl) (tys := tysG G) (ci := 6) (v := .int (σrr.1 3)) (C := RX6) (T := TX6) (N := 4) hx hb hts iX6 hown hG.1 hP 0 rfl rfl 3 (Nat.le_of_ble_eq_true rfl) (hts _ tw_1_195) (fun _ h9 => h9) rfl dX6_add_1 ?_
  refine lv_bipush (v := 30) hx hb dX6_add_4 lb_30 ?_
  refine lv_icmp_ge (tgt := 49) hx hb dX6_add_6 (by decide) (fun c1 => ?_) (fun c1 => ?_)
  · have h := if_t c1 h
    cases h
    exact rt_v K hP hD hS dX6_add_49
  · have h := if_f c1 h
    refine lv_aload_n hx hb dX6_add_9 rfl (lv_at hl 0 rfl) ?_
    refine va_get (D := G.1) (cl := vwCl) (tys := tysG G) (ci := 6) (v := .ref (rr 1)) (C := RX6) (T := TX6) (N := 4) hx hb hts iX6 hown hG.1 hP 0 rfl rfl 0 (Nat.le_of_ble_eq_true rfl) (hts _ tw_1_189) (fun _ h9 => h9) rfl dX6_add_10 ?_
    refine lv_aload_n hx hb dX6_add_13 rfl (lv_at hl 0 rfl) ?_
    refine va_get (D := G.1) (cl := vwCl) (tys := tysG G) (ci := 6) (v := .int (σrr.1 3)) (C := RX6) (T := TX6) (N := 4) hx hb hts iX6 hown hG.1 hP 0 rfl rfl 3 (Nat.le_of_ble_eq_true rfl) (hts _ tw_1_195) (fun _ h9 => h9) rfl dX6_add_14 ?_
    refine lv_iload_n hx hb dX6_add_17 rfl (lv_at hl 1 rfl) ?_
    obtain ⟨ck2, h⟩ := ck h
    obtain ⟨s3, e4, h⟩ := nm_ex h
    refine va_iast hx hb hG.1 hP hD hS 1 0 rfl rfl ck2 dX6_add_18 (fun H locs hP hD hS => ?_)
    have hP : va_P G.1 vwCl (List.flatten [wR G rr s3]) H := by rw [e4]; exact hP
    have hD : va_D A (List.flatten [wR G rr s3]) := by rw [e4]; exact hD
    refine lv_aload_n hx hb dX6_add_19 rfl (lv_at hl 0 rfl) ?_
    refine va_get (D := G.1) (cl := vwCl) (tys := tysG G) (ci := 6) (v := .ref (rr 2)) (C := RX6) (T := TX6) (N := 4) hx hb hts iX6 hown hG.1 hP 0 rfl rfl 1 (Nat.le_of_ble_eq_true rfl) (hts _ tw_1_191) (fun _ h9 => h9) rfl dX6_add_20 ?_
    refine lv_aload_n hx hb dX6_add_23 rfl (lv_at hl 0 rfl) ?_
    refine va_get (D := G.1) (cl := vwCl) (tys := tysG G) (ci := 6) (v := .int (s3.1 3)) (C := RX6) (T := TX6) (N := 4) hx hb hts iX6 hown hG.1 hP 0 rfl rfl 3 (Nat.le_of_ble_eq_true rfl) (hts _ tw_1_195) (fun _ h9 => h9) rfl dX6_add_24 ?_
    refine lv_iload_n hx hb dX6_add_27 rfl (lv_at hl 2 rfl) ?_
    obtain ⟨ck5, h⟩ := ck h
    obtain ⟨s6, e7, h⟩ := nm_ex h
    refine va_iast hx hb hG.1 hP hD hS 2 0 rfl rfl ck5 dX6_add_28 (fun H locs hP hD hS => ?_)
    have hP : va_P G.1 vwCl (List.flatten [wR G rr s6]) H := by rw [e7]; exact hP
    have hD : va_D A (List.flatten [wR G rr s6]) := by rw [e7]; exact hD
    refine lv_aload_n hx hb dX6_add_29 rfl (lv_at hl 0 rfl) ?_
    refine va_get (D := G.1) (cl := vwCl) (tys := tysG G) (ci := 6) (v := .ref (rr 3)) (C := RX6) (T := TX6) (N := 4) hx hb hts iX6 hown hG.1 hP 0 rfl rfl 2 (Nat.le_of_ble_eq_true rfl) (hts _ tw_1_193) (fun _ h9 => h9) rfl dX6_add_30 ?_
    refine lv_aload_n hx hb dX6_add_33 rfl (lv_at hl 0 rfl) ?_
    refine va_get (D := G.1) (cl := vwCl) (tys := tysG G) (ci := 6) (v := .int (s6.1 3)) (C := RX6) (T := TX6) (N := 4) hx hb hts iX6 hown hG.1 hP 0 rfl rfl 3 (Nat.le_of_ble_eq_true rfl) (hts _ tw_1_195) (fun _ h9 => h9) rfl dX6_add_34 ?_
    refine lv_iload_n hx hb dX6_add_37 rfl (lv_at hl 3 rfl) ?_
    obtain ⟨ck8, h⟩ := ck h
    obtain ⟨s9, e10, h⟩ := nm_ex h
    refine va_iast hx hb hG.1 hP hD hS 3 0 rfl rfl ck8 dX6_add_38 (fun H locs hP hD hS => ?_)
    have hP : va_P G.1 vwCl (List.flatten [wR G rr s9]) H := by rw [e10]; exact hP
    have hD : va_D A (List.flatten [wR G rr s9]) := by rw [e10]; exact hD
    refine lv_aload_n hx hb dX6_add_39 rfl (lv_at hl 0 rfl) ?_
    refine lv_dup hx hb dX6_add_40 rfl ?_
    refine va_get (D := G.1) (cl := vwCl) (tys := tysG G) (ci := 6) (v := .int (s9.1 3)) (C := RX6) (T := TX6) (N := 4) hx hb hts iX6 hown hG.1 hP 0 rfl rfl 3 (Nat.le_of_ble_eq_true rfl) (hts _ tw_1_195) (fun _ h9 => h9) rfl dX6_add_41 ?_
    refine lv_iconst (v := 1) hx hb dX6_add_44 li_1 ?_
    refine lv_iadd hx hb dX6_add_45 ?_
    obtain ⟨s11, e12, h⟩ := nm_ex h
    refine va_put (D := G.1) (cl := vwCl) (tys := tysG G) (ci := 6) (v := .int ((s9.1 3) + (1 : Int32))) (ty := .int) (C := RX6) (T := TX6) (N := 4) hx hb hts iX6 tyX6 tyX6_ok nmX6 hown hG.1 hP hD hS 0 rfl rfl 3 (Nat.le_of_ble_eq_true rfl) (hts _ tw_1_195) (fun _ h9 => h9) rfl (by decide +kernel) rfl rfl (Nat.le_of_ble_eq_true rfl) dX6_add_46 (fun H locs hP hD hS => ?_)
    have hP : va_P G.1 vwCl (List.flatten [wR G rr s11]) H := by rw [e12]; exact hP
    have hD : va_D A (List.flatten [wR G rr s11]) := by rw [e12]; exact hD
    cases h
    exact rt_v K hP hD hS dX6_add_49
def gbX6_addRunsOf_5 (F : Nat) (v1 : Int32) (v2 : Int32) (rc : Int32 → Int32 → ST → Option (Int32 × Int32 × ST)) (v3 : Int32) (v4 : Int32) (σrr : ST) : Option (Int32 × Int32 × ST) :=
  if (10 : Int32) < v4 then
    some (v3, v4, σrr)
  else
    if ((v2 >>> (v4 &&& 31)) &&& (1 : Int32)) = 0 then
      if v3 ≤ 0 then
        rc v3 (v4 + 1) σrr
      else
        (fX6_add F σrr v1 (v4 - v3) v3).bind fun r4 =>
        rc (0 : Int32) (v4 + 1) r4
    else
      rc (v3 + 1) (v4 + 1) σrr
def gX6_addRunsOf_5 (F : Nat) (v1 : Int32) (v2 : Int32) : Nat → Int32 → Int32 → ST → Option (Int32 × Int32 × ST)
  | 0, _, _, _ => none
  | n + 1, v3, v4, σrr => gbX6_addRunsOf_5 F v1 v2 (gX6_addRunsOf_5 F v1 v2 n) v3 v4 σrr
set_option maxHeartbeats 4000000 in
set_option maxRecDepth 100000 in
theorem kX6_addRunsOf_5 {p : Program} {l : Launch} {e : Env} {s : State} {m : MethodId} {args : Array Value} {below : List Frame} {meth : Method} {c : Code} {A : Nat → Prop} {Q : State → Prop} {G : GP} (K : Cx p s m meth c G cX6_addRunsOf RX6 5 none args A) (F : Nat) (rr : Nat → Nat) (v1 : Int32) (v2 : Int32) {z : Int32 × Int32 × ST} (kk : ∀ (H : Heap) (locs : List Loc) (ls : Array Slot), va_P G.1 vwCl (List.flatten [wR G rr z.2.2]) H → va_D A (List.flatten [wR G rr z.2.2]) → va_S A s.heap H locs → lv_has ls 5 [(0, .ref (rr 0)), (1, .int v1), (2, .int v2), (3, .int z.1), (4, .int z.2.1)] → W p l e (RM 2) s m args below meth c H locs 0 0 Q (F0 m 49 ls [])) :
    ∀ (n : Nat) (v3 : Int32) (v4 : Int32) (σrr : ST) (H : Heap) (locs : List Loc) (ls : Array Slot), va_P G.1 vwCl (List.flatten [wR G rr σrr]) H → va_D A (List.flatten [wR G rr σrr]) → va_S A s.heap H locs → lv_has ls 5 [(0, .ref (rr 0)), (1, .int v1), (2, .int v2), (3, .int v3), (4, .int v4)] → gX6_addRunsOf_5 F v1 v2 n v3 v4 σrr = some z → W p l e (RM 2) s m args below meth c H locs 0 0 Q (F0 m 5 ls []) := by
  obtain ⟨hx, hb, hr, hml, hts, hown, hlocks, hA, hG⟩ := id K
  intro n
  induction n with
  | zero =>
    intro v3 v4 σrr H locs ls hP hD hS hl h
    have h : none = some z := h
    cases h
  | succ n ih =>
    intro v3 v4 σrr H locs ls hP hD hS hl h
    have h : gbX6_addRunsOf_5 F v1 v2 (gX6_addRunsOf_5 F v1 v2 n) v3 v4 σrr = some z := h
    unfold gbX6_addRunsOf_5 at h
    refine lv_iload hx hb dX6_addRunsOf_5 (lv_at hl 4 rfl) ?_
    refine lv_bipush (v := 10) hx hb dX6_addRunsOf_7 lb_10 ?_
    refine lv_icmp_gt (tgt := 49) hx hb dX6_addRunsOf_9 (by decide) (fun c1 => ?_) (fun c1 => ?_)
    · have h := if_t c1 h
      cases h
      exact kk _ _ _ hP hD hS (lv_sub hl [0, 1, 2, 3, 4] rfl)
    · have h := if_f c1 h
      refine lv_iload_n hx hb dX6_addRunsOf_12 rfl (lv_at hl 2 rfl) ?_
      refine lv_iload hx hb dX6_addRunsOf_13 (lv_at hl 4 rfl) ?_
      refine lv_ishr hx hb dX6_addRunsOf_15 ?_
      refine lv_iconst (v := 1) hx hb dX6_addRunsOf_16 li_1 ?_
      refine lv_iand hx hb dX6_addRunsOf_17 ?_
      refine lv_if_eq (tgt := 27) hx hb dX6_addRunsOf_18 (by decide) (fun c2 => ?_) (fun c2 => ?_)
      · have h := if_t c2 h
        refine lv_iload_n hx hb dX6_addRunsOf_27 rfl (lv_at hl 3 rfl) ?_
        refine lv_if_le (tgt := 43) hx hb dX6_addRunsOf_28 (by decide) (fun c3 => ?_) (fun c3 => ?_)
        · have h := if_t c3 h
          refine lv_iinc (v := v4 + 1) (lv' := [(4, .int (v4 + 1)), (0, .ref (rr 0)), (1, .int v1), (2, .int v2), (3, .int v3)]) hx hb dX6_addRunsOf_43 hl (k := 4) rfl (by rw [li_1]) (Nat.le_of_ble_eq_true rfl) rfl (fun ls hl => ?_)
          refine lv_goto (tgt := 5) hx hb dX6_addRunsOf_46 (by decide) ?_
          exact ih v3 (v4 + 1) σrr _ _ _ hP hD hS (lv_sub hl [1, 2, 3, 4, 0] rfl) h
        · have h := if_f c3 h
          refine lv_aload_n hx hb dX6_addRunsOf_31 rfl (lv_at hl 0 rfl) ?_
          refine lv_iload_n hx hb dX6_addRunsOf_32 rfl (lv_at hl 1 rfl) ?_
          refine lv_iload hx hb dX6_addRunsOf_33 (lv_at hl 4 rfl) ?_
          refine lv_iload_n hx hb dX6_addRunsOf_35 rfl (lv_at hl 3 rfl) ?_
          refine lv_isub hx hb dX6_addRunsOf_36 ?_
          refine lv_iload_n hx hb dX6_addRunsOf_37 rfl (lv_at hl 3 rfl) ?_
          obtain ⟨r4, hc5, h⟩ := bd_ex h
          refine sl_V (q0 := 0) (ci := 6) (C := RX6) K (mX6_add l G F rr σrr v1 (v4 - v3) v3 hc5) tw_3_162 tw_1_8 tw_3_160 tw_3_161 tw_3_159 cdX6_add ⟨Nat.le_of_ble_eq_true rfl, Nat.le_of_ble_eq_true rfl⟩ hP hD hS [0] rfl rfl rfl rfl rfl rfl rfl hl.1 (Nat.le_of_ble_eq_true rfl) ⟨Nat.zero_le _, Nat.zero_le _⟩ dX6_addRunsOf_38 (fun H locs hP hD hS => ?_)
          have hP : va_P G.1 vwCl (List.flatten [wR G rr r4]) H := hP
          have hD : va_D A (List.flatten [wR G rr r4]) := hD
          refine lv_iconst (v := 0) hx hb dX6_addRunsOf_41 li_0 ?_
          refine lv_istore_n (lv' := [(3, .int (0 : Int32)), (0, .ref (rr 0)), (1, .int v1), (2, .int v2), (4, .int v4)]) hx hb dX6_addRunsOf_42 rfl hl (Nat.le_of_ble_eq_true rfl) rfl (fun ls hl => ?_)
          refine lv_iinc (v := v4 + 1) (lv' := [(4, .int (v4 + 1)), (3, .int (0 : Int32)), (0, .ref (rr 0)), (1, .int v1), (2, .int v2)]) hx hb dX6_addRunsOf_43 hl (k := 4) rfl (by rw [li_1]) (Nat.le_of_ble_eq_true rfl) rfl (fun ls hl => ?_)
          refine lv_goto (tgt := 5) hx hb dX6_addRunsOf_46 (by decide) ?_
          exact ih (0 : Int32) (v4 + 1) r4 _ _ _ hP hD hS (lv_sub hl [2, 3, 4, 1, 0] rfl) h
      · have h := if_f c2 h
        refine lv_iinc (v := v3 + 1) (lv' := [(3, .int (v3 + 1)), (0, .ref (rr 0)), (1, .int v1), (2, .int v2), (4, .int v4)]) hx hb dX6_addRunsOf_21 hl (k := 3) rfl (by rw [li_1]) (Nat.le_of_ble_eq_true rfl) rfl (fun ls hl => ?_)
        refine lv_goto (tgt := 43) hx hb dX6_addRunsOf_24 (by decide) ?_
        refine lv_iinc (v := v4 + 1) (lv' := [(4, .int (v4 + 1)), (3, .int (v3 + 1)), (0, .ref (rr 0)), (1, .int v1), (2, .int v2)]) hx hb dX6_addRunsOf_43 hl (k := 4) rfl (by rw [li_1]) (Nat.le_of_ble_eq_true rfl) rfl (fun ls hl => ?_)
        refine lv_goto (tgt := 5) hx hb dX6_addRunsOf_46 (by decide) ?_
        exact ih (v3 + 1) (v4 + 1) σrr _ _ _ hP hD hS (lv_sub hl [2, 3, 4, 1, 0] rfl) h
def fX6_addRunsOf (F : Nat) (σrr : ST) (x1 : Int32) (x2 : Int32) : Option (ST) :=
  (gX6_addRunsOf_5 F x1 x2 F (0 : Int32) (0 : Int32) σrr).bind fun z6 =>
    some z6.2.2
theorem cdX6_addRunsOf : CallD yX6_addRunsOf 2 := by decide +kernel
set_option maxHeartbeats 4000000 in
set_option maxRecDepth 100000 in
theorem mX6_addRunsOf (l : Launch) (G : GP) (F : Nat) (rr : Nat → Nat) (σrr : ST) (x1 : Int32) (x2 : Int32) {r : ST} (h : fX6_addRunsOf F σrr x1 x2 = some r) : CC l G yX6_addRunsOf cX6_addRunsOf 5 none 2 [.ref (rr 0), .int x1, .int x2] (List.flatten [wR G rr σrr]) (List.flatten [wR G rr r]) none := by
  refine CC.of (by decide) (Nat.le_of_ble_eq_true rfl) ?_
  intro p e s m below meth c A K hP hD hS ls hl
  obtain ⟨hx, hb, hr, hml, hts, hown, hlocks, hA, hG⟩ := id K
  have hl : lv_has ls 5 [(0, .ref (rr 0)), (1, .int x1), (2, .int x2)] := hl
  unfold fX6_addRunsOf at h
  refine lv_iconst (v := 0) hx hb dX6_addRunsOf_0 li_0 ?_
  refine lv_istore_n (lv' := [(3, .int (0 : Int32)), (0, .ref (rr 0)), (1, .int x1), (2, .int x2)]) hx hb dX6_addRunsOf_1 rfl hl (Nat.le_of_ble_eq_true rfl) rfl (fun ls hl => ?_)
  refine lv_iconst (v := 0) hx hb dX6_addRunsOf_2 li_0 ?_
  refine lv_istore (lv' := [(4, .int (0 : Int32)), (3, .int (0 : Int32)), (0, .ref (rr 0)), (1, .int x1), (2, .int x2)]) hx hb dX6_addRunsOf_3 hl (Nat.le_of_ble_eq_true rfl) rfl (fun ls hl => ?_)
  obtain ⟨z6, hz7, h⟩ := bd_ex h
  refine kX6_addRunsOf_5 K F rr x1 x2 (fun H locs ls hP hD hS hl => ?_) F (0 : Int32) (0 : Int32) σrr _ _ _ hP hD hS (lv_sub hl [2, 3, 4, 1, 0] rfl) hz7
  cases h
  exact rt_v K hP hD hS dX6_addRunsOf_49
def gbX6_look_8 (F : Nat) (σbb : ST) (σdd : ST) (v2 : Int32) (v3 : Int32) (rc : Int32 → ST → Option (Int32 × ST)) (v4 : Int32) (σrr : ST) : Option (Int32 × ST) :=
  if (6 : Int32) ≤ v4 then
    some (v4, σrr)
  else
    (fX4_view F σdd v2 v4).bind fun r4 =>
    (fX2_darkCells F σbb σdd v3 v4).bind fun r6 =>
    (fX6_addRunsOf F σrr v4 (r4 &&& r6)).bind fun r8 =>
    rc (v4 + 1) r8
def gX6_look_8 (F : Nat) (σbb : ST) (σdd : ST) (v2 : Int32) (v3 : Int32) : Nat → Int32 → ST → Option (Int32 × ST)
  | 0, _, _ => none
  | n + 1, v4, σrr => gbX6_look_8 F σbb σdd v2 v3 (gX6_look_8 F σbb σdd v2 v3 n) v4 σrr
set_option maxHeartbeats 4000000 in
set_option maxRecDepth 100000 in
theorem kX6_look_8 {p : Program} {l : Launch} {e : Env} {s : State} {m : MethodId} {args : Array Value} {below : List Frame} {meth : Method} {c : Code} {A : Nat → Prop} {Q : State → Prop} {G : GP} (K : Cx p s m meth c G cX6_look RX6 5 none args A) (F : Nat) (rr : Nat → Nat) (ff : Nat) (bb : Nat → Nat) (dd : Nat → Nat) (σbb : ST) (σdd : ST) (v2 : Int32) (v3 : Int32) {z : Int32 × ST} (kk : ∀ (H : Heap) (locs : List Loc) (ls : Array Slot), va_P G.1 vwCl (List.flatten [wR G rr z.2, wF ff (bb 0) (dd 0), wB G bb σbb, wD G dd σdd]) H → va_D A (List.flatten [wR G rr z.2, wF ff (bb 0) (dd 0), wB G bb σbb, wD G dd σdd]) → va_S A s.heap H locs → lv_has ls 5 [(0, .ref (rr 0)), (1, .ref ff), (2, .int v2), (3, .int v3), (4, .int z.1)] → W p l e (RM 5) s m args below meth c H locs 0 0 Q (F0 m 45 ls [])) :
    ∀ (n : Nat) (v4 : Int32) (σrr : ST) (H : Heap) (locs : List Loc) (ls : Array Slot), va_P G.1 vwCl (List.flatten [wR G rr σrr, wF ff (bb 0) (dd 0), wB G bb σbb, wD G dd σdd]) H → va_D A (List.flatten [wR G rr σrr, wF ff (bb 0) (dd 0), wB G bb σbb, wD G dd σdd]) → va_S A s.heap H locs → lv_has ls 5 [(0, .ref (rr 0)), (1, .ref ff), (2, .int v2), (3, .int v3), (4, .int v4)] → gX6_look_8 F σbb σdd v2 v3 n v4 σrr = some z → W p l e (RM 5) s m args below meth c H locs 0 0 Q (F0 m 8 ls []) := by
  obtain ⟨hx, hb, hr, hml, hts, hown, hlocks, hA, hG⟩ := id K
  intro n
  induction n with
  | zero =>
    intro v4 σrr H locs ls hP hD hS hl h
    have h : none = some z := h
    cases h
  | succ n ih =>
    intro v4 σrr H locs ls hP hD hS hl h
    have h : gbX6_look_8 F σbb σdd v2 v3 (gX6_look_8 F σbb σdd v2 v3 n) v4 σrr = some z := h
    unfold gbX6_look_8 at h
    refine lv_iload hx hb dX6_look_8 (lv_at hl 4 rfl) ?_
    refine lv_bipush (v := 6) hx hb dX6_look_10 lb_6 ?_
    refine lv_icmp_ge (tgt := 45) hx hb dX6_look_12 (by decide) (fun c3 => ?_) (fun c3 => ?_)
    · have h := if_t c3 h
      cases h
      exact kk _ _ _ hP hD hS (lv_sub hl [0, 1, 2, 3, 4] rfl)
    · have h := if_f c3 h
      refine lv_aload_n hx hb dX6_look_15 rfl (lv_at hl 0 rfl) ?_
      refine lv_iload hx hb dX6_look_16 (lv_at hl 4 rfl) ?_
      refine lv_aload_n hx hb dX6_look_18 rfl (lv_at hl 1 rfl) ?_
      refine va_get (D := G.1) (cl := vwCl) (tys := tysG G) (ci := 2) (v := .ref (dd 0)) (C := RX2) (T := TX2) (N := 2) hx hb hts iX2 hown hG.1 hP 4 rfl rfl 1 (Nat.le_of_ble_eq_true rfl) (hts _ tw_1_127) (fun _ h9 => h9) rfl dX6_look_19 ?_
      refine lv_iload_n hx hb dX6_look_22 rfl (lv_at hl 2 rfl) ?_
      refine lv_iload hx hb dX6_look_23 (lv_at hl 4 rfl) ?_
      obtain ⟨r4, hc5, h⟩ := bd_ex h
      refine sl_V (q0 := 9) (ci := 4) (C := RX4) K (mX4_view l G F dd σdd v2 v4 hc5) tw_3_153 tw_1_6 tw_3_151 tw_3_152 tw_3_150 cdX4_view ⟨Nat.le_of_ble_eq_true rfl, Nat.le_of_ble_eq_true rfl⟩ hP hD hS [3] rfl rfl rfl rfl rfl rfl rfl hl.1 (Nat.le_of_ble_eq_true rfl) ⟨Nat.zero_le _, Nat.zero_le _⟩ dX6_look_25 (fun H locs hP hD hS => ?_)
      have hP : va_P G.1 vwCl (List.flatten [wR G rr σrr, wF ff (bb 0) (dd 0), wB G bb σbb, wD G dd σdd]) H := hP
      have hD : va_D A (List.flatten [wR G rr σrr, wF ff (bb 0) (dd 0), wB G bb σbb, wD G dd σdd]) := hD
      refine lv_aload_n hx hb dX6_look_28 rfl (lv_at hl 1 rfl) ?_
      refine lv_iload_n hx hb dX6_look_29 rfl (lv_at hl 3 rfl) ?_
      refine lv_iload hx hb dX6_look_30 (lv_at hl 4 rfl) ?_
      obtain ⟨r6, hc7, h⟩ := bd_ex h
      refine sl_V (q0 := 4) (ci := 2) (C := RX2) K (mX2_darkCells l G F ff bb dd σbb σdd v3 v4 hc7) tw_3_126 tw_1_4 tw_3_124 tw_3_125 tw_3_154 cdX2_darkCells ⟨Nat.le_of_ble_eq_true rfl, Nat.le_of_ble_eq_true rfl⟩ hP hD hS [1, 2, 3] rfl rfl rfl rfl rfl rfl rfl hl.1 (Nat.le_of_ble_eq_true rfl) ⟨Nat.zero_le _, Nat.zero_le _⟩ dX6_look_32 (fun H locs hP hD hS => ?_)
      have hP : va_P G.1 vwCl (List.flatten [wR G rr σrr, wF ff (bb 0) (dd 0), wB G bb σbb, wD G dd σdd]) H := hP
      have hD : va_D A (List.flatten [wR G rr σrr, wF ff (bb 0) (dd 0), wB G bb σbb, wD G dd σdd]) := hD
      refine lv_iand hx hb dX6_look_35 ?_
      obtain ⟨r8, hc9, h⟩ := bd_ex h
      refine sl_V (q0 := 0) (ci := 6) (C := RX6) K (mX6_addRunsOf l G F rr σrr v4 (r4 &&& r6) hc9) tw_3_158 tw_1_8 tw_3_156 tw_3_157 tw_3_155 cdX6_addRunsOf ⟨Nat.le_of_ble_eq_true rfl, Nat.le_of_ble_eq_true rfl⟩ hP hD hS [0] rfl rfl rfl rfl rfl rfl rfl hl.1 (Nat.le_of_ble_eq_true rfl) ⟨Nat.zero_le _, Nat.zero_le _⟩ dX6_look_36 (fun H locs hP hD hS => ?_)
      have hP : va_P G.1 vwCl (List.flatten [wR G rr r8, wF ff (bb 0) (dd 0), wB G bb σbb, wD G dd σdd]) H := hP
      have hD : va_D A (List.flatten [wR G rr r8, wF ff (bb 0) (dd 0), wB G bb σbb, wD G dd σdd]) := hD
      refine lv_iinc (v := v4 + 1) (lv' := [(4, .int (v4 + 1)), (0, .ref (rr 0)), (1, .ref ff), (2, .int v2), (3, .int v3)]) hx hb dX6_look_39 hl (k := 4) rfl (by rw [li_1]) (Nat.le_of_ble_eq_true rfl) rfl (fun ls hl => ?_)
      refine lv_goto (tgt := 8) hx hb dX6_look_42 (by decide) ?_
      exact ih (v4 + 1) r8 _ _ _ hP hD hS (lv_sub hl [1, 2, 3, 4, 0] rfl) h
def fX6_look (F : Nat) (σrr : ST) (σbb : ST) (σdd : ST) (x2 : Int32) (x3 : Int32) : Option (ST) :=
  nm (sI σrr 3 (0 : Int32)) fun (s1 : ST) =>
  (gX6_look_8 F σbb σdd x2 x3 F (0 : Int32) s1).bind fun z10 =>
    some z10.2
theorem cdX6_look : CallD yX6_look 3 := by decide +kernel
set_option maxHeartbeats 4000000 in
set_option maxRecDepth 100000 in
theorem mX6_look (l : Launch) (G : GP) (F : Nat) (rr : Nat → Nat) (ff : Nat) (bb : Nat → Nat) (dd : Nat → Nat) (σrr : ST) (σbb : ST) (σdd : ST) (x2 : Int32) (x3 : Int32) {r : ST} (h : fX6_look F σrr σbb σdd x2 x3 = some r) : CC l G yX6_look cX6_look 5 none 5 [.ref (rr 0), .ref ff, .int x2, .int x3] (List.flatten [wR G rr σrr, wF ff (bb 0) (dd 0), wB G bb σbb, wD G dd σdd]) (List.flatten [wR G rr r, wF ff (bb 0) (dd 0), wB G bb σbb, wD G dd σdd]) none := by
  refine CC.of (by decide) (Nat.le_of_ble_eq_true rfl) ?_
  intro p e s m below meth c A K hP hD hS ls hl
  obtain ⟨hx, hb, hr, hml, hts, hown, hlocks, hA, hG⟩ := id K
  have hl : lv_has ls 5 [(0, .ref (rr 0)), (1, .ref ff), (2, .int x2), (3, .int x3)] := hl
  unfold fX6_look at h
  refine lv_aload_n hx hb dX6_look_0 rfl (lv_at hl 0 rfl) ?_
  refine lv_iconst (v := 0) hx hb dX6_look_1 li_0 ?_
  obtain ⟨s1, e2, h⟩ := nm_ex h
  refine va_put (D := G.1) (cl := vwCl) (tys := tysG G) (ci := 6) (v := .int (0 : Int32)) (ty := .int) (C := RX6) (T := TX6) (N := 4) hx hb hts iX6 tyX6 tyX6_ok nmX6 hown hG.1 hP hD hS 0 rfl rfl 3 (Nat.le_of_ble_eq_true rfl) (hts _ tw_1_195) (fun _ h9 => h9) rfl (by decide +kernel) rfl rfl (Nat.le_of_ble_eq_true rfl) dX6_look_2 (fun H locs hP hD hS => ?_)
  have hP : va_P G.1 vwCl (List.flatten [wR G rr s1, wF ff (bb 0) (dd 0), wB G bb σbb, wD G dd σdd]) H := by rw [e2]; exact hP
  have hD : va_D A (List.flatten [wR G rr s1, wF ff (bb 0) (dd 0), wB G bb σbb, wD G dd σdd]) := by rw [e2]; exact hD
  refine lv_iconst (v := 0) hx hb dX6_look_5 li_0 ?_
  refine lv_istore (lv' := [(4, .int (0 : Int32)), (0, .ref (rr 0)), (1, .ref ff), (2, .int x2), (3, .int x3)]) hx hb dX6_look_6 hl (Nat.le_of_ble_eq_true rfl) rfl (fun ls hl => ?_)
  obtain ⟨z10, hz11, h⟩ := bd_ex h
  refine kX6_look_8 K F rr ff bb dd σbb σdd x2 x3 (fun H locs ls hP hD hS hl => ?_) F (0 : Int32) s1 _ _ _ hP hD hS (lv_sub hl [1, 2, 3, 4, 0] rfl) hz11
  cases h
  exact rt_v K hP hD hS dX6_look_45
def fX6_headsOfRun (F : Nat)  (x1 : Int32) (x2 : Int32) : Option (Int32) :=
  if x2 ≤ 0 then
    some (1 : Int32)
  else
    if x2 < x1 then
      if x2 = 0 then none else
      if ((2 : Int32) * (x1 - x1 / x2 * x2)) ≤ x2 then
        some ((x1 / x2) + (0 : Int32))
      else
        some ((x1 / x2) + (1 : Int32))
    else
      some (1 : Int32)
theorem cdX6_headsOfRun : CallD yX6_headsOfRun 2 := by decide +kernel
set_option maxHeartbeats 4000000 in
set_option maxRecDepth 100000 in
theorem mX6_headsOfRun (l : Launch) (G : GP) (F : Nat)   (x1 : Int32) (x2 : Int32) {r : Int32} (h : fX6_headsOfRun F  x1 x2 = some r) : CC l G yX6_headsOfRun cX6_headsOfRun 3 (some .int) 1 [.int x1, .int x2] (List.flatten ([] : List va_W)) (List.flatten ([] : List va_W)) (some (.int r)) := by
  refine CC.of (by decide) (Nat.le_of_ble_eq_true rfl) ?_
  intro p e s m below meth c A K hP hD hS ls hl
  obtain ⟨hx, hb, hr, hml, hts, hown, hlocks, hA, hG⟩ := id K
  have hl : lv_has ls 3 [(0, .int x1), (1, .int x2)] := hl
  unfold fX6_headsOfRun at h
  refine lv_iload_n hx hb dX6_headsOfRun_0 rfl (lv_at hl 1 rfl) ?_
  refine lv_if_le (tgt := 9) hx hb dX6_headsOfRun_1 (by decide) (fun c1 => ?_) (fun c1 => ?_)
  · have h := if_t c1 h
    refine lv_iconst (v := 1) hx hb dX6_headsOfRun_9 li_1 ?_
    cases h
    exact rt_i K hP hD hS dX6_headsOfRun_10
  · have h := if_f c1 h
    refine lv_iload_n hx hb dX6_headsOfRun_4 rfl (lv_at hl 0 rfl) ?_
    refine lv_iload_n hx hb dX6_headsOfRun_5 rfl (lv_at hl 1 rfl) ?_
    refine lv_icmp_gt (tgt := 11) hx hb dX6_headsOfRun_6 (by decide) (fun c2 => ?_) (fun c2 => ?_)
    · have h := if_t c2 h
      refine lv_iload_n hx hb dX6_headsOfRun_11 rfl (lv_at hl 0 rfl) ?_
      refine lv_iload_n hx hb dX6_headsOfRun_12 rfl (lv_at hl 1 rfl) ?_
      obtain ⟨ck3, h⟩ := ck h
      refine lv_irem hx hb dX6_headsOfRun_13 ck3 ?_
      refine lv_istore_n (lv' := [(2, .int (x1 - x1 / x2 * x2)), (0, .int x1), (1, .int x2)]) hx hb dX6_headsOfRun_14 rfl hl (Nat.le_of_ble_eq_true rfl) rfl (fun ls hl => ?_)
      refine lv_iload_n hx hb dX6_headsOfRun_15 rfl (lv_at hl 1 rfl) ?_
      refine lv_iload_n hx hb dX6_headsOfRun_16 rfl (lv_at hl 2 rfl) ?_
      refine lv_idiv hx hb dX6_headsOfRun_17 ck3 ?_
      refine lv_iconst (v := 2) hx hb dX6_headsOfRun_18 li_2 ?_
      refine lv_iload_n hx hb dX6_headsOfRun_19 rfl (lv_at hl 0 rfl) ?_
      refine lv_imul hx hb dX6_headsOfRun_20 ?_
      refine lv_iload_n hx hb dX6_headsOfRun_21 rfl (lv_at hl 2 rfl) ?_
      refine lv_icmp_le (tgt := 29) hx hb dX6_headsOfRun_22 (by decide) (fun c4 => ?_) (fun c4 => ?_)
      · have h := if_t c4 h
        refine lv_iconst (v := 0) hx hb dX6_headsOfRun_29 li_0 ?_
        refine lv_iadd hx hb dX6_headsOfRun_30 ?_
        cases h
        exact rt_i K hP hD hS dX6_headsOfRun_31
      · have h := if_f c4 h
        refine lv_iconst (v := 1) hx hb dX6_headsOfRun_25 li_1 ?_
        refine lv_goto (tgt := 30) hx hb dX6_headsOfRun_26 (by decide) ?_
        refine lv_iadd hx hb dX6_headsOfRun_30 ?_
        cases h
        exact rt_i K hP hD hS dX6_headsOfRun_31
    · have h := if_f c2 h
      refine lv_iconst (v := 1) hx hb dX6_headsOfRun_9 li_1 ?_
      cases h
      exact rt_i K hP hD hS dX6_headsOfRun_10
def gbX6_headsByRule_4 (F : Nat) (σrr : ST) (v1 : Int32) (rc : Int32 → Int32 → Option (Int32 × Int32)) (v2 : Int32) (v3 : Int32) : Option (Int32 × Int32) :=
  if (σrr.1 3) ≤ v3 then
    some (v2, v3)
  else
    if v3 < 0 ∨ 30 ≤ v3.toNatClampNeg then none else
    (fX6_headsOfRun F (σrr.2.1 2 v3.toNatClampNeg) v1).bind fun r3 =>
    rc (v2 + r3) (v3 + 1)
def gX6_headsByRule_4 (F : Nat) (σrr : ST) (v1 : Int32) : Nat → Int32 → Int32 → Option (Int32 × Int32)
  | 0, _, _ => none
  | n + 1, v2, v3 => gbX6_headsByRule_4 F σrr v1 (gX6_headsByRule_4 F σrr v1 n) v2 v3
set_option maxHeartbeats 4000000 in
set_option maxRecDepth 100000 in
theorem kX6_headsByRule_4 {p : Program} {l : Launch} {e : Env} {s : State} {m : MethodId} {args : Array Value} {below : List Frame} {meth : Method} {c : Code} {A : Nat → Prop} {Q : State → Prop} {G : GP} (K : Cx p s m meth c G cX6_headsByRule RX6 4 (some .int) args A) (F : Nat) (rr : Nat → Nat) (σrr : ST) (v1 : Int32) {z : Int32 × Int32} (kk : ∀ (H : Heap) (locs : List Loc) (ls : Array Slot), va_P G.1 vwCl (List.flatten [wR G rr σrr]) H → va_D A (List.flatten [wR G rr σrr]) → va_S A s.heap H locs → lv_has ls 4 [(0, .ref (rr 0)), (1, .int v1), (2, .int z.1), (3, .int z.2)] → W p l e (RM 2) s m args below meth c H locs 0 0 Q (F0 m 31 ls [])) :
    ∀ (n : Nat) (v2 : Int32) (v3 : Int32) (H : Heap) (locs : List Loc) (ls : Array Slot), va_P G.1 vwCl (List.flatten [wR G rr σrr]) H → va_D A (List.flatten [wR G rr σrr]) → va_S A s.heap H locs → lv_has ls 4 [(0, .ref (rr 0)), (1, .int v1), (2, .int v2), (3, .int v3)] → gX6_headsByRule_4 F σrr v1 n v2 v3 = some z → W p l e (RM 2) s m args below meth c H locs 0 0 Q (F0 m 4 ls []) := by
  obtain ⟨hx, hb, hr, hml, hts, hown, hlocks, hA, hG⟩ := id K
  intro n
  induction n with
  | zero =>
    intro v2 v3 H locs ls hP hD hS hl h
    have h : none = some z := h
    cases h
  | succ n ih =>
    intro v2 v3 H locs ls hP hD hS hl h
    have h : gbX6_headsByRule_4 F σrr v1 (gX6_headsByRule_4 F σrr v1 n) v2 v3 = some z := h
    unfold gbX6_headsByRule_4 at h
    refine lv_iload_n hx hb dX6_headsByRule_4 rfl (lv_at hl 3 rfl) ?_
    refine lv_aload_n hx hb dX6_headsByRule_5 rfl (lv_at hl 0 rfl) ?_
    refine va_get (D := G.1) (cl := vwCl) (tys := tysG G) (ci := 6) (v := .int (σrr.1 3)) (C := RX6) (T := TX6) (N := 4) hx hb hts iX6 hown hG.1 hP 0 rfl rfl 3 (Nat.le_of_ble_eq_true rfl) (hts _ tw_1_195) (fun _ h9 => h9) rfl dX6_headsByRule_6 ?_
    refine lv_icmp_ge (tgt := 31) hx hb dX6_headsByRule_9 (by decide) (fun c1 => ?_) (fun c1 => ?_)
    · have h := if_t c1 h
      cases h
      exact kk _ _ _ hP hD hS (lv_sub hl [0, 1, 2, 3] rfl)
    · have h := if_f c1 h
      refine lv_iload_n hx hb dX6_headsByRule_12 rfl (lv_at hl 2 rfl) ?_
      refine lv_aload_n hx hb dX6_headsByRule_13 rfl (lv_at hl 0 rfl) ?_
      refine va_get (D := G.1) (cl := vwCl) (tys := tysG G) (ci := 6) (v := .ref (rr 3)) (C := RX6) (T := TX6) (N := 4) hx hb hts iX6 hown hG.1 hP 0 rfl rfl 2 (Nat.le_of_ble_eq_true rfl) (hts _ tw_1_193) (fun _ h9 => h9) rfl dX6_headsByRule_14 ?_
      refine lv_iload_n hx hb dX6_headsByRule_17 rfl (lv_at hl 3 rfl) ?_
      obtain ⟨ck2, h⟩ := ck h
      refine va_iald hx hb hG.1 hP 3 0 rfl rfl ck2 dX6_headsByRule_18 ?_
      refine lv_iload_n hx hb dX6_headsByRule_19 rfl (lv_at hl 1 rfl) ?_
      obtain ⟨r3, hc4, h⟩ := bd_ex h
      refine sl_S K (mX6_headsOfRun l G F (σrr.2.1 2 v3.toNatClampNeg) v1 hc4) tw_3_198 tw_1_8 tw_3_197 tw_3_196 cdX6_headsOfRun ⟨Nat.le_of_ble_eq_true rfl, Nat.le_of_ble_eq_true rfl⟩ hP hD hS [] rfl rfl rfl rfl hl.1 (Nat.le_of_ble_eq_true rfl) ⟨Nat.zero_le _, Nat.zero_le _⟩ dX6_headsByRule_20 (fun H locs hP hD hS => ?_)
      have hP : va_P G.1 vwCl (List.flatten [wR G rr σrr]) H := hP
      have hD : va_D A (List.flatten [wR G rr σrr]) := hD
      refine lv_iadd hx hb dX6_headsByRule_23 ?_
      refine lv_istore_n (lv' := [(2, .int (v2 + r3)), (0, .ref (rr 0)), (1, .int v1), (3, .int v3)]) hx hb dX6_headsByRule_24 rfl hl (Nat.le_of_ble_eq_true rfl) rfl (fun ls hl => ?_)
      refine lv_iinc (v := v3 + 1) (lv' := [(3, .int (v3 + 1)), (2, .int (v2 + r3)), (0, .ref (rr 0)), (1, .int v1)]) hx hb dX6_headsByRule_25 hl (k := 3) rfl (by rw [li_1]) (Nat.le_of_ble_eq_true rfl) rfl (fun ls hl => ?_)
      refine lv_goto (tgt := 4) hx hb dX6_headsByRule_28 (by decide) ?_
      exact ih (v2 + r3) (v3 + 1) _ _ _ hP hD hS (lv_sub hl [2, 3, 1, 0] rfl) h
def fX6_headsByRule (F : Nat) (σrr : ST) (x1 : Int32) : Option (Int32) :=
  (gX6_headsByRule_4 F σrr x1 F (0 : Int32) (0 : Int32)).bind fun z5 =>
    some z5.1
theorem cdX6_headsByRule : CallD yX6_headsByRule 1 := by decide +kernel
set_option maxHeartbeats 4000000 in
set_option maxRecDepth 100000 in
theorem mX6_headsByRule (l : Launch) (G : GP) (F : Nat) (rr : Nat → Nat) (σrr : ST) (x1 : Int32) {r : Int32} (h : fX6_headsByRule F σrr x1 = some r) : CC l G yX6_headsByRule cX6_headsByRule 4 (some .int) 2 [.ref (rr 0), .int x1] (List.flatten [wR G rr σrr]) (List.flatten [wR G rr σrr]) (some (.int r)) := by
  refine CC.of (by decide) (Nat.le_of_ble_eq_true rfl) ?_
  intro p e s m below meth c A K hP hD hS ls hl
  obtain ⟨hx, hb, hr, hml, hts, hown, hlocks, hA, hG⟩ := id K
  have hl : lv_has ls 4 [(0, .ref (rr 0)), (1, .int x1)] := hl
  unfold fX6_headsByRule at h
  refine lv_iconst (v := 0) hx hb dX6_headsByRule_0 li_0 ?_
  refine lv_istore_n (lv' := [(2, .int (0 : Int32)), (0, .ref (rr 0)), (1, .int x1)]) hx hb dX6_headsByRule_1 rfl hl (Nat.le_of_ble_eq_true rfl) rfl (fun ls hl => ?_)
  refine lv_iconst (v := 0) hx hb dX6_headsByRule_2 li_0 ?_
  refine lv_istore_n (lv' := [(3, .int (0 : Int32)), (2, .int (0 : Int32)), (0, .ref (rr 0)), (1, .int x1)]) hx hb dX6_headsByRule_3 rfl hl (Nat.le_of_ble_eq_true rfl) rfl (fun ls hl => ?_)
  obtain ⟨z5, hz6, h⟩ := bd_ex h
  refine kX6_headsByRule_4 K F rr σrr x1 (fun H locs ls hP hD hS hl => ?_) F (0 : Int32) (0 : Int32) _ _ _ hP hD hS (lv_sub hl [2, 3, 1, 0] rfl) hz6
  refine lv_iload_n hx hb dX6_headsByRule_31 rfl (lv_at hl 2 rfl) ?_
  cases h
  exact rt_i K hP hD hS dX6_headsByRule_32
