def gbX11_write_34 (F : Nat) (v1 : Int32) (v2 : Int64) (rc : Int32 → ST → Option (Int32 × ST)) (v4 : Int32) (σxx : ST) : Option (Int32 × ST) :=
  if v4 < 0 then
    some (v4, σxx)
  else
    if (σxx.1 16) < 0 ∨ 92 ≤ (σxx.1 16).toNatClampNeg then none else
    nm (sA σxx 15 (σxx.1 16).toNatClampNeg (((v2 >>> (((8 : Int32) * v4).toInt64 &&& 63)) &&& (255 : Int64)).toInt32)) fun (s7 : ST) =>
    nm (sI s7 16 ((s7.1 16) + (1 : Int32))) fun (s9 : ST) =>
    rc (v4 + (-1)) s9
def gX11_write_34 (F : Nat) (v1 : Int32) (v2 : Int64) : Nat → Int32 → ST → Option (Int32 × ST)
  | 0, _, _ => none
  | n + 1, v4, σxx => gbX11_write_34 F v1 v2 (gX11_write_34 F v1 v2 n) v4 σxx
set_option maxHeartbeats 4000000 in
set_option maxRecDepth 100000 in
theorem kX11_write_34 {p : Program} {l : Launch} {e : Env} {s : State} {m : MethodId} {args : Array Value} {below : List Frame} {meth : Method} {c : Code} {A : Nat → Prop} {Q : State → Prop} {G : GP} (K : Cx p s m meth c G cX11_write RX11 5 (some .int) args A) (F : Nat) (xx : Nat → Nat) (v1 : Int32) (v2 : Int64) {z : Int32 × ST} (kk : ∀ (H : Heap) (locs : List Loc) (ls : Array Slot), va_P G.1 vwCl (List.flatten [wX G xx z.2]) H → va_D A (List.flatten [wX G xx z.2]) → va_S A s.heap H locs → lv_has ls 5 [(0, .ref (xx 0)), (1, .int v1), (2, .long v2), (4, .int z.1)] → W p l e (RM 2) s m args below meth c H locs 0 0 Q (F0 m 76 ls [])) :
    ∀ (n : Nat) (v4 : Int32) (σxx : ST) (H : Heap) (locs : List Loc) (ls : Array Slot), va_P G.1 vwCl (List.flatten [wX G xx σxx]) H → va_D A (List.flatten [wX G xx σxx]) → va_S A s.heap H locs → lv_has ls 5 [(0, .ref (xx 0)), (1, .int v1), (2, .long v2), (4, .int v4)] → gX11_write_34 F v1 v2 n v4 σxx = some z → W p l e (RM 2) s m args below meth c H locs 0 0 Q (F0 m 34 ls []) := by
  obtain ⟨hx, hb, hr, hml, hts, hown, hlocks, hA, hG⟩ := id K
  intro n
  induction n with
  | zero =>
    intro v4 σxx H locs ls hP hD hS hl h
    have h : none = some z := h
    cases h
  | succ n ih =>
    intro v4 σxx H locs ls hP hD hS hl h
    have h : gbX11_write_34 F v1 v2 (gX11_write_34 F v1 v2 n) v4 σxx = some z := h
    unfold gbX11_write_34 at h
    refine lv_iload hx hb dX11_write_34 (lv_at hl 3 rfl) ?_
    refine lv_if_lt (tgt := 76) hx hb dX11_write_36 (by decide) (fun c5 => ?_) (fun c5 => ?_)
    · have h := if_t c5 h
      cases h
      exact kk _ _ _ hP hD hS (lv_sub hl [0, 1, 2, 3] rfl)
    · have h := if_f c5 h
      refine lv_aload_n hx hb dX11_write_39 rfl (lv_at hl 0 rfl) ?_
      refine va_get (D := G.1) (cl := vwCl) (tys := tysG G) (ci := 11) (v := .ref (xx 16)) (C := RX11) (T := TX11) (N := 37) hx hb hts iX11 hown hG.1 hP 0 rfl rfl 15 (Nat.le_of_ble_eq_true rfl) (hts _ tw_4_112) (fun _ h9 => h9) rfl dX11_write_40 ?_
      refine lv_aload_n hx hb dX11_write_43 rfl (lv_at hl 0 rfl) ?_
      refine va_get (D := G.1) (cl := vwCl) (tys := tysG G) (ci := 11) (v := .int (σxx.1 16)) (C := RX11) (T := TX11) (N := 37) hx hb hts iX11 hown hG.1 hP 0 rfl rfl 16 (Nat.le_of_ble_eq_true rfl) (hts _ tw_4_113) (fun _ h9 => h9) rfl dX11_write_44 ?_
      refine lv_lload_n hx hb dX11_write_47 rfl (lv_at hl 2 rfl) ?_
      refine lv_bipush (v := 8) hx hb dX11_write_48 lb_8 ?_
      refine lv_iload hx hb dX11_write_50 (lv_at hl 3 rfl) ?_
      refine lv_imul hx hb dX11_write_52 ?_
      refine lv_lshr (v := v2 >>> (((8 : Int32) * v4).toInt64 &&& 63)) hx hb dX11_write_53 rfl ?_
      refine lv_ldc2 (v := 255) hx hb hown (hts _ tw_4_218) dX11_write_54 ?_
      refine lv_land hx hb dX11_write_57 ?_
      refine lv_l2i (v := ((v2 >>> (((8 : Int32) * v4).toInt64 &&& 63)) &&& (255 : Int64)).toInt32) hx hb dX11_write_58 rfl ?_
      obtain ⟨ck6, h⟩ := ck h
      obtain ⟨s7, e8, h⟩ := nm_ex h
      refine va_iast hx hb hG.1 hP hD hS 9 0 rfl rfl ck6 dX11_write_59 (fun H locs hP hD hS => ?_)
      have hP : va_P G.1 vwCl (List.flatten [wX G xx s7]) H := by rw [e8]; exact hP
      have hD : va_D A (List.flatten [wX G xx s7]) := by rw [e8]; exact hD
      refine lv_aload_n hx hb dX11_write_60 rfl (lv_at hl 0 rfl) ?_
      refine lv_dup hx hb dX11_write_61 rfl ?_
      refine va_get (D := G.1) (cl := vwCl) (tys := tysG G) (ci := 11) (v := .int (s7.1 16)) (C := RX11) (T := TX11) (N := 37) hx hb hts iX11 hown hG.1 hP 0 rfl rfl 16 (Nat.le_of_ble_eq_true rfl) (hts _ tw_4_113) (fun _ h9 => h9) rfl dX11_write_62 ?_
      refine lv_iconst (v := 1) hx hb dX11_write_65 li_1 ?_
      refine lv_iadd hx hb dX11_write_66 ?_
      obtain ⟨s9, e10, h⟩ := nm_ex h
      refine va_put (D := G.1) (cl := vwCl) (tys := tysG G) (ci := 11) (v := .int ((s7.1 16) + (1 : Int32))) (ty := .int) (C := RX11) (T := TX11) (N := 37) hx hb hts iX11 tyX11 tyX11_ok nmX11 hown hG.1 hP hD hS 0 rfl rfl 16 (Nat.le_of_ble_eq_true rfl) (hts _ tw_4_113) (fun _ h9 => h9) rfl (by decide +kernel) rfl rfl (Nat.le_of_ble_eq_true rfl) dX11_write_67 (fun H locs hP hD hS => ?_)
      have hP : va_P G.1 vwCl (List.flatten [wX G xx s9]) H := by rw [e10]; exact hP
      have hD : va_D A (List.flatten [wX G xx s9]) := by rw [e10]; exact hD
      refine lv_iinc (v := v4 + (-1)) (lv' := [(4, .int (v4 + (-1))), (0, .ref (xx 0)), (1, .int v1), (2, .long v2)]) hx hb dX11_write_70 hl (k := 3) rfl (by rw [li_m1]) (Nat.le_of_ble_eq_true rfl) rfl (fun ls hl => ?_)
      refine lv_goto (tgt := 34) hx hb dX11_write_73 (by decide) ?_
      exact ih (v4 + (-1)) s9 _ _ _ hP hD hS (lv_sub hl [1, 2, 3, 0] rfl) h
def fX11_write (F : Nat) (σxx : ST) (x1 : Int32) (x2 : Int64) : Option (Int32 × ST) :=
  (fX11_in F x1.toInt64 (1 : Int64) (8 : Int64)).bind fun r1 =>
  if r1 = 0 then
    some ((-2 : Int32), σxx)
  else
    if ((σxx.1 16) + x1) ≤ (92 : Int32) then
      (gX11_write_34 F x1 x2 F (x1 - (1 : Int32)) σxx).bind fun z11 =>
        some (z11.2.1 16, z11.2)
    else
      some ((-4 : Int32), σxx)
theorem cdX11_write : CallD yX11_write 2 := by decide +kernel
set_option maxHeartbeats 4000000 in
set_option maxRecDepth 100000 in
theorem mX11_write (l : Launch) (G : GP) (F : Nat) (xx : Nat → Nat) (σxx : ST) (x1 : Int32) (x2 : Int64) {r : Int32 × ST} (h : fX11_write F σxx x1 x2 = some r) : CC l G yX11_write cX11_write 5 (some .int) 2 [.ref (xx 0), .int x1, .long x2] (List.flatten [wX G xx σxx]) (List.flatten [wX G xx r.2]) (some (.int r.1)) := by
  refine CC.of (by decide) (Nat.le_of_ble_eq_true rfl) ?_
  intro p e s m below meth c A K hP hD hS ls hl
  obtain ⟨hx, hb, hr, hml, hts, hown, hlocks, hA, hG⟩ := id K
  have hl : lv_has ls 5 [(0, .ref (xx 0)), (1, .int x1), (2, .long x2)] := hl
  unfold fX11_write at h
  refine lv_iload_n hx hb dX11_write_0 rfl (lv_at hl 1 rfl) ?_
  refine lv_i2l (v := x1.toInt64) hx hb dX11_write_1 rfl ?_
  refine lv_lconst (v := 1) hx hb dX11_write_2 ll_1 ?_
  refine lv_ldc2 (v := 8) hx hb hown (hts _ tw_4_214) dX11_write_3 ?_
  obtain ⟨r1, hc2, h⟩ := bd_ex h
  refine sl_S K (mX11_in l G F x1.toInt64 (1 : Int64) (8 : Int64) hc2) tw_4_217 tw_1_12 tw_4_216 tw_4_215 cdX11_in ⟨Nat.le_of_ble_eq_true rfl, Nat.le_of_ble_eq_true rfl⟩ hP hD hS [] rfl rfl rfl rfl hl.1 (Nat.le_of_ble_eq_true rfl) ⟨Nat.zero_le _, Nat.zero_le _⟩ dX11_write_6 (fun H locs hP hD hS => ?_)
  have hP : va_P G.1 vwCl (List.flatten [wX G xx σxx]) H := hP
  have hD : va_D A (List.flatten [wX G xx σxx]) := hD
  refine lv_if_ne (tgt := 15) hx hb dX11_write_9 (by decide) (fun c3 => ?_) (fun c3 => ?_)
  · have h := if_f c3 h
    refine lv_aload_n hx hb dX11_write_15 rfl (lv_at hl 0 rfl) ?_
    refine va_get (D := G.1) (cl := vwCl) (tys := tysG G) (ci := 11) (v := .int (σxx.1 16)) (C := RX11) (T := TX11) (N := 37) hx hb hts iX11 hown hG.1 hP 0 rfl rfl 16 (Nat.le_of_ble_eq_true rfl) (hts _ tw_4_113) (fun _ h9 => h9) rfl dX11_write_16 ?_
    refine lv_iload_n hx hb dX11_write_19 rfl (lv_at hl 1 rfl) ?_
    refine lv_iadd hx hb dX11_write_20 ?_
    refine lv_bipush (v := 92) hx hb dX11_write_21 lb_92 ?_
    refine lv_icmp_le (tgt := 29) hx hb dX11_write_23 (by decide) (fun c4 => ?_) (fun c4 => ?_)
    · have h := if_t c4 h
      refine lv_iload_n hx hb dX11_write_29 rfl (lv_at hl 1 rfl) ?_
      refine lv_iconst (v := 1) hx hb dX11_write_30 li_1 ?_
      refine lv_isub hx hb dX11_write_31 ?_
      refine lv_istore (lv' := [(4, .int (x1 - (1 : Int32))), (0, .ref (xx 0)), (1, .int x1), (2, .long x2)]) hx hb dX11_write_32 hl (Nat.le_of_ble_eq_true rfl) rfl (fun ls hl => ?_)
      obtain ⟨z11, hz12, h⟩ := bd_ex h
      refine kX11_write_34 K F xx x1 x2 (fun H locs ls hP hD hS hl => ?_) F (x1 - (1 : Int32)) σxx _ _ _ hP hD hS (lv_sub hl [1, 2, 3, 0] rfl) hz12
      refine lv_aload_n hx hb dX11_write_76 rfl (lv_at hl 0 rfl) ?_
      refine va_get (D := G.1) (cl := vwCl) (tys := tysG G) (ci := 11) (v := .int (z11.2.1 16)) (C := RX11) (T := TX11) (N := 37) hx hb hts iX11 hown hG.1 hP 0 rfl rfl 16 (Nat.le_of_ble_eq_true rfl) (hts _ tw_4_113) (fun _ h9 => h9) rfl dX11_write_77 ?_
      cases h
      exact rt_i K hP hD hS dX11_write_80
    · have h := if_f c4 h
      refine lv_bipush (v := -4) hx hb dX11_write_26 lb_m4 ?_
      cases h
      exact rt_i K hP hD hS dX11_write_28
  · have h := if_t c3 h
    refine lv_bipush (v := -2) hx hb dX11_write_12 lb_m2 ?_
    cases h
    exact rt_i K hP hD hS dX11_write_14
def fX11_wipe (F : Nat) (σxx : ST)  : Option (Int32 × ST) :=
  nm (sI σxx 16 (0 : Int32)) fun (s1 : ST) =>
  some (σxx.1 16, s1)
theorem cdX11_wipe : CallD yX11_wipe 0 := by decide +kernel
set_option maxHeartbeats 4000000 in
set_option maxRecDepth 100000 in
theorem mX11_wipe (l : Launch) (G : GP) (F : Nat) (xx : Nat → Nat) (σxx : ST)  {r : Int32 × ST} (h : fX11_wipe F σxx  = some r) : CC l G yX11_wipe cX11_wipe 2 (some .int) 1 [.ref (xx 0)] (List.flatten [wX G xx σxx]) (List.flatten [wX G xx r.2]) (some (.int r.1)) := by
  refine CC.of (by decide) (Nat.le_of_ble_eq_true rfl) ?_
  intro p e s m below meth c A K hP hD hS ls hl
  obtain ⟨hx, hb, hr, hml, hts, hown, hlocks, hA, hG⟩ := id K
  have hl : lv_has ls 2 [(0, .ref (xx 0))] := hl
  unfold fX11_wipe at h
  refine lv_aload_n hx hb dX11_wipe_0 rfl (lv_at hl 0 rfl) ?_
  refine va_get (D := G.1) (cl := vwCl) (tys := tysG G) (ci := 11) (v := .int (σxx.1 16)) (C := RX11) (T := TX11) (N := 37) hx hb hts iX11 hown hG.1 hP 0 rfl rfl 16 (Nat.le_of_ble_eq_true rfl) (hts _ tw_4_113) (fun _ h9 => h9) rfl dX11_wipe_1 ?_
  refine lv_istore_n (lv' := [(1, .int (σxx.1 16)), (0, .ref (xx 0))]) hx hb dX11_wipe_4 rfl hl (Nat.le_of_ble_eq_true rfl) rfl (fun ls hl => ?_)
  refine lv_aload_n hx hb dX11_wipe_5 rfl (lv_at hl 1 rfl) ?_
  refine lv_iconst (v := 0) hx hb dX11_wipe_6 li_0 ?_
  obtain ⟨s1, e2, h⟩ := nm_ex h
  refine va_put (D := G.1) (cl := vwCl) (tys := tysG G) (ci := 11) (v := .int (0 : Int32)) (ty := .int) (C := RX11) (T := TX11) (N := 37) hx hb hts iX11 tyX11 tyX11_ok nmX11 hown hG.1 hP hD hS 0 rfl rfl 16 (Nat.le_of_ble_eq_true rfl) (hts _ tw_4_113) (fun _ h9 => h9) rfl (by decide +kernel) rfl rfl (Nat.le_of_ble_eq_true rfl) dX11_wipe_7 (fun H locs hP hD hS => ?_)
  have hP : va_P G.1 vwCl (List.flatten [wX G xx s1]) H := by rw [e2]; exact hP
  have hD : va_D A (List.flatten [wX G xx s1]) := by rw [e2]; exact hD
  refine lv_iload_n hx hb dX11_wipe_10 rfl (lv_at hl 0 rfl) ?_
  cases h
  exact rt_i K hP hD hS dX11_wipe_11
def fX11_fail (F : Nat) (σxx : ST)  : Option (ST) :=
  if (σxx.1 18) = (-9 : Int32) then
    nm (sI σxx 18 (σxx.1 17)) fun (s4 : ST) =>
    some s4
  else
    nm (sI σxx 18 (σxx.1 18)) fun (s2 : ST) =>
    some s2
theorem cdX11_fail : CallD yX11_fail 0 := by decide +kernel
set_option maxHeartbeats 4000000 in
set_option maxRecDepth 100000 in
theorem mX11_fail (l : Launch) (G : GP) (F : Nat) (xx : Nat → Nat) (σxx : ST)  {r : ST} (h : fX11_fail F σxx  = some r) : CC l G yX11_fail cX11_fail 1 none 1 [.ref (xx 0)] (List.flatten [wX G xx σxx]) (List.flatten [wX G xx r]) none := by
  refine CC.of (by decide) (Nat.le_of_ble_eq_true rfl) ?_
  intro p e s m below meth c A K hP hD hS ls hl
  obtain ⟨hx, hb, hr, hml, hts, hown, hlocks, hA, hG⟩ := id K
  have hl : lv_has ls 1 [(0, .ref (xx 0))] := hl
  unfold fX11_fail at h
  refine lv_aload_n hx hb dX11_fail_0 rfl (lv_at hl 0 rfl) ?_
  refine lv_aload_n hx hb dX11_fail_1 rfl (lv_at hl 0 rfl) ?_
  refine va_get (D := G.1) (cl := vwCl) (tys := tysG G) (ci := 11) (v := .int (σxx.1 18)) (C := RX11) (T := TX11) (N := 37) hx hb hts iX11 hown hG.1 hP 0 rfl rfl 18 (Nat.le_of_ble_eq_true rfl) (hts _ tw_4_115) (fun _ h9 => h9) rfl dX11_fail_2 ?_
  refine lv_bipush (v := -9) hx hb dX11_fail_5 lb_m9 ?_
  refine lv_icmp_ne (tgt := 17) hx hb dX11_fail_7 (by decide) (fun c1 => ?_) (fun c1 => ?_)
  · have h := if_f c1 h
    refine lv_aload_n hx hb dX11_fail_17 rfl (lv_at hl 0 rfl) ?_
    refine va_get (D := G.1) (cl := vwCl) (tys := tysG G) (ci := 11) (v := .int (σxx.1 18)) (C := RX11) (T := TX11) (N := 37) hx hb hts iX11 hown hG.1 hP 0 rfl rfl 18 (Nat.le_of_ble_eq_true rfl) (hts _ tw_4_115) (fun _ h9 => h9) rfl dX11_fail_18 ?_
    obtain ⟨s2, e3, h⟩ := nm_ex h
    refine va_put (D := G.1) (cl := vwCl) (tys := tysG G) (ci := 11) (v := .int (σxx.1 18)) (ty := .int) (C := RX11) (T := TX11) (N := 37) hx hb hts iX11 tyX11 tyX11_ok nmX11 hown hG.1 hP hD hS 0 rfl rfl 18 (Nat.le_of_ble_eq_true rfl) (hts _ tw_4_115) (fun _ h9 => h9) rfl (by decide +kernel) rfl rfl (Nat.le_of_ble_eq_true rfl) dX11_fail_21 (fun H locs hP hD hS => ?_)
    have hP : va_P G.1 vwCl (List.flatten [wX G xx s2]) H := by rw [e3]; exact hP
    have hD : va_D A (List.flatten [wX G xx s2]) := by rw [e3]; exact hD
    cases h
    exact rt_v K hP hD hS dX11_fail_24
  · have h := if_t c1 h
    refine lv_aload_n hx hb dX11_fail_10 rfl (lv_at hl 0 rfl) ?_
    refine va_get (D := G.1) (cl := vwCl) (tys := tysG G) (ci := 11) (v := .int (σxx.1 17)) (C := RX11) (T := TX11) (N := 37) hx hb hts iX11 hown hG.1 hP 0 rfl rfl 17 (Nat.le_of_ble_eq_true rfl) (hts _ tw_4_114) (fun _ h9 => h9) rfl dX11_fail_11 ?_
    refine lv_goto (tgt := 21) hx hb dX11_fail_14 (by decide) ?_
    obtain ⟨s4, e5, h⟩ := nm_ex h
    refine va_put (D := G.1) (cl := vwCl) (tys := tysG G) (ci := 11) (v := .int (σxx.1 17)) (ty := .int) (C := RX11) (T := TX11) (N := 37) hx hb hts iX11 tyX11 tyX11_ok nmX11 hown hG.1 hP hD hS 0 rfl rfl 18 (Nat.le_of_ble_eq_true rfl) (hts _ tw_4_115) (fun _ h9 => h9) rfl (by decide +kernel) rfl rfl (Nat.le_of_ble_eq_true rfl) dX11_fail_21 (fun H locs hP hD hS => ?_)
    have hP : va_P G.1 vwCl (List.flatten [wX G xx s4]) H := by rw [e5]; exact hP
    have hD : va_D A (List.flatten [wX G xx s4]) := by rw [e5]; exact hD
    cases h
    exact rt_v K hP hD hS dX11_fail_24
def fX11_sign (F : Nat) (σxx : ST) (x1 : Int32) : Option (Int32 × ST) :=
  if (σxx.1 18) = (-9 : Int32) then
    if (σxx.1 16) ≤ (σxx.1 17) then
      (fX11_in F ((0 : Int32).toInt64) (48 : Int64) (57 : Int64)).bind fun r27 =>
      if r27 = 0 then
        (fX11_in F ((0 : Int32).toInt64) (97 : Int64) (102 : Int64)).bind fun r30 =>
        if r30 = 0 then
          (fX11_fail F σxx).bind fun r33 =>
          some ((0 : Int32), r33)
        else
          if ((0 : Int32) - (87 : Int32)) < 0 then
            (fX11_fail F σxx).bind fun r36 =>
            some ((0 : Int32), r36)
          else
            if ((x1 >>> (((0 : Int32) - (87 : Int32)) &&& 31)) &&& (1 : Int32)) = 0 then
              (fX11_fail F σxx).bind fun r41 =>
              some ((0 : Int32), r41)
            else
              nm (sI σxx 17 ((σxx.1 17) + (1 : Int32))) fun (s39 : ST) =>
              some ((0 : Int32) - (87 : Int32), s39)
      else
        if ((0 : Int32) - (48 : Int32)) < 0 then
          (fX11_fail F σxx).bind fun r44 =>
          some ((0 : Int32), r44)
        else
          if ((x1 >>> (((0 : Int32) - (48 : Int32)) &&& 31)) &&& (1 : Int32)) = 0 then
            (fX11_fail F σxx).bind fun r49 =>
            some ((0 : Int32), r49)
          else
            nm (sI σxx 17 ((σxx.1 17) + (1 : Int32))) fun (s47 : ST) =>
            some ((0 : Int32) - (48 : Int32), s47)
    else
      if (σxx.1 17) < 0 ∨ 92 ≤ (σxx.1 17).toNatClampNeg then none else
      (fX11_in F ((σxx.2.1 15 (σxx.1 17).toNatClampNeg).toInt64) (48 : Int64) (57 : Int64)).bind fun r52 =>
      if r52 = 0 then
        (fX11_in F ((σxx.2.1 15 (σxx.1 17).toNatClampNeg).toInt64) (97 : Int64) (102 : Int64)).bind fun r55 =>
        if r55 = 0 then
          (fX11_fail F σxx).bind fun r58 =>
          some ((0 : Int32), r58)
        else
          if ((σxx.2.1 15 (σxx.1 17).toNatClampNeg) - (87 : Int32)) < 0 then
            (fX11_fail F σxx).bind fun r61 =>
            some ((0 : Int32), r61)
          else
            if ((x1 >>> (((σxx.2.1 15 (σxx.1 17).toNatClampNeg) - (87 : Int32)) &&& 31)) &&& (1 : Int32)) = 0 then
              (fX11_fail F σxx).bind fun r66 =>
              some ((0 : Int32), r66)
            else
              nm (sI σxx 17 ((σxx.1 17) + (1 : Int32))) fun (s64 : ST) =>
              some ((σxx.2.1 15 (σxx.1 17).toNatClampNeg) - (87 : Int32), s64)
      else
        if ((σxx.2.1 15 (σxx.1 17).toNatClampNeg) - (48 : Int32)) < 0 then
          (fX11_fail F σxx).bind fun r69 =>
          some ((0 : Int32), r69)
        else
          if ((x1 >>> (((σxx.2.1 15 (σxx.1 17).toNatClampNeg) - (48 : Int32)) &&& 31)) &&& (1 : Int32)) = 0 then
            (fX11_fail F σxx).bind fun r74 =>
            some ((0 : Int32), r74)
          else
            nm (sI σxx 17 ((σxx.1 17) + (1 : Int32))) fun (s72 : ST) =>
            some ((σxx.2.1 15 (σxx.1 17).toNatClampNeg) - (48 : Int32), s72)
  else
    (fX11_in F ((0 : Int32).toInt64) (48 : Int64) (57 : Int64)).bind fun r2 =>
    if r2 = 0 then
      (fX11_in F ((0 : Int32).toInt64) (97 : Int64) (102 : Int64)).bind fun r5 =>
      if r5 = 0 then
        (fX11_fail F σxx).bind fun r8 =>
        some ((0 : Int32), r8)
      else
        if ((0 : Int32) - (87 : Int32)) < 0 then
          (fX11_fail F σxx).bind fun r11 =>
          some ((0 : Int32), r11)
        else
          if ((x1 >>> (((0 : Int32) - (87 : Int32)) &&& 31)) &&& (1 : Int32)) = 0 then
            (fX11_fail F σxx).bind fun r16 =>
            some ((0 : Int32), r16)
          else
            nm (sI σxx 17 ((σxx.1 17) + (1 : Int32))) fun (s14 : ST) =>
            some ((0 : Int32) - (87 : Int32), s14)
    else
      if ((0 : Int32) - (48 : Int32)) < 0 then
        (fX11_fail F σxx).bind fun r19 =>
        some ((0 : Int32), r19)
      else
        if ((x1 >>> (((0 : Int32) - (48 : Int32)) &&& 31)) &&& (1 : Int32)) = 0 then
          (fX11_fail F σxx).bind fun r24 =>
          some ((0 : Int32), r24)
        else
          nm (sI σxx 17 ((σxx.1 17) + (1 : Int32))) fun (s22 : ST) =>
          some ((0 : Int32) - (48 : Int32), s22)
theorem cdX11_sign : CallD yX11_sign 1 := by decide +kernel
set_option maxHeartbeats 4000000 in
set_option maxRecDepth 100000 in
theorem mX11_sign (l : Launch) (G : GP) (F : Nat) (xx : Nat → Nat) (σxx : ST) (x1 : Int32) {r : Int32 × ST} (h : fX11_sign F σxx x1 = some r) : CC l G yX11_sign cX11_sign 4 (some .int) 2 [.ref (xx 0), .int x1] (List.flatten [wX G xx σxx]) (List.flatten [wX G xx r.2]) (some (.int r.1)) := by
  refine CC.of (by decide) (Nat.le_of_ble_eq_true rfl) ?_
  intro p e s m below meth c A K hP hD hS ls hl
  obtain ⟨hx, hb, hr, hml, hts, hown, hlocks, hA, hG⟩ := id K
  have hl : lv_has ls 4 [(0, .ref (xx 0)), (1, .int x1)] := hl
  unfold fX11_sign at h
  refine lv_aload_n hx hb dX11_sign_0 rfl (lv_at hl 0 rfl) ?_
  refine va_get (D := G.1) (cl := vwCl) (tys := tysG G) (ci := 11) (v := .int (σxx.1 18)) (C := RX11) (T := TX11) (N := 37) hx hb hts iX11 hown hG.1 hP 0 rfl rfl 18 (Nat.le_of_ble_eq_true rfl) (hts _ tw_4_115) (fun _ h9 => h9) rfl dX11_sign_1 ?_
  refine lv_bipush (v := -9) hx hb dX11_sign_4 lb_m9 ?_
  refine lv_icmp_ne (tgt := 32) hx hb dX11_sign_6 (by decide) (fun c1 => ?_) (fun c1 => ?_)
  · have h := if_f c1 h
    refine lv_iconst (v := 0) hx hb dX11_sign_32 li_0 ?_
    refine lv_istore_n (lv' := [(2, .int (0 : Int32)), (0, .ref (xx 0)), (1, .int x1)]) hx hb dX11_sign_33 rfl hl (Nat.le_of_ble_eq_true rfl) rfl (fun ls hl => ?_)
    refine lv_iload_n hx hb dX11_sign_34 rfl (lv_at hl 0 rfl) ?_
    refine lv_i2l (v := (0 : Int32).toInt64) hx hb dX11_sign_35 rfl ?_
    refine lv_ldc2 (v := 48) hx hb hown (hts _ tw_5_14) dX11_sign_36 ?_
    refine lv_ldc2 (v := 57) hx hb hown (hts _ tw_5_15) dX11_sign_39 ?_
    obtain ⟨r2, hc3, h⟩ := bd_ex h
    refine sl_S K (mX11_in l G F ((0 : Int32).toInt64) (48 : Int64) (57 : Int64) hc3) tw_4_217 tw_1_12 tw_4_216 tw_4_215 cdX11_in ⟨Nat.le_of_ble_eq_true rfl, Nat.le_of_ble_eq_true rfl⟩ hP hD hS [] rfl rfl rfl rfl hl.1 (Nat.le_of_ble_eq_true rfl) ⟨Nat.zero_le _, Nat.zero_le _⟩ dX11_sign_42 (fun H locs hP hD hS => ?_)
    have hP : va_P G.1 vwCl (List.flatten [wX G xx σxx]) H := hP
    have hD : va_D A (List.flatten [wX G xx σxx]) := hD
    refine lv_if_eq (tgt := 55) hx hb dX11_sign_45 (by decide) (fun c4 => ?_) (fun c4 => ?_)
    · have h := if_t c4 h
      refine lv_iload_n hx hb dX11_sign_55 rfl (lv_at hl 0 rfl) ?_
      refine lv_i2l (v := (0 : Int32).toInt64) hx hb dX11_sign_56 rfl ?_
      refine lv_ldc2 (v := 97) hx hb hown (hts _ tw_5_16) dX11_sign_57 ?_
      refine lv_ldc2 (v := 102) hx hb hown (hts _ tw_5_17) dX11_sign_60 ?_
      obtain ⟨r5, hc6, h⟩ := bd_ex h
      refine sl_S K (mX11_in l G F ((0 : Int32).toInt64) (97 : Int64) (102 : Int64) hc6) tw_4_217 tw_1_12 tw_4_216 tw_4_215 cdX11_in ⟨Nat.le_of_ble_eq_true rfl, Nat.le_of_ble_eq_true rfl⟩ hP hD hS [] rfl rfl rfl rfl hl.1 (Nat.le_of_ble_eq_true rfl) ⟨Nat.zero_le _, Nat.zero_le _⟩ dX11_sign_63 (fun H locs hP hD hS => ?_)
      have hP : va_P G.1 vwCl (List.flatten [wX G xx σxx]) H := hP
      have hD : va_D A (List.flatten [wX G xx σxx]) := hD
      refine lv_if_eq (tgt := 76) hx hb dX11_sign_66 (by decide) (fun c7 => ?_) (fun c7 => ?_)
      · have h := if_t c7 h
        refine lv_iconst (v := -1) hx hb dX11_sign_76 li_m1 ?_
        refine lv_istore_n (lv' := [(3, .int (-1 : Int32)), (2, .int (0 : Int32)), (0, .ref (xx 0)), (1, .int x1)]) hx hb dX11_sign_77 rfl hl (Nat.le_of_ble_eq_true rfl) rfl (fun ls hl => ?_)
        refine lv_iload_n hx hb dX11_sign_78 rfl (lv_at hl 0 rfl) ?_
        refine lv_if_lt (tgt := 90) hx hb dX11_sign_79 (by decide) (fun c9 => ?_) (fun c9 => absurd c9 (by decide))
        refine lv_aload_n hx hb dX11_sign_90 rfl (lv_at hl 2 rfl) ?_
        obtain ⟨r8, hc9, h⟩ := bd_ex h
        refine sl_V (q0 := 0) (ci := 11) (C := RX11) K (mX11_fail l G F xx σxx hc9) tw_5_5 tw_1_12 tw_5_4 tw_0_4 tw_5_2 cdX11_fail ⟨Nat.le_of_ble_eq_true rfl, Nat.le_of_ble_eq_true rfl⟩ hP hD hS [0] rfl rfl rfl rfl rfl rfl rfl hl.1 (Nat.le_of_ble_eq_true rfl) ⟨Nat.zero_le _, Nat.zero_le _⟩ dX11_sign_91 (fun H locs hP hD hS => ?_)
        have hP : va_P G.1 vwCl (List.flatten [wX G xx r8]) H := hP
        have hD : va_D A (List.flatten [wX G xx r8]) := hD
        refine lv_iconst (v := 0) hx hb dX11_sign_94 li_0 ?_
        cases h
        exact rt_i K hP hD hS dX11_sign_95
      · have h := if_f c7 h
        refine lv_iload_n hx hb dX11_sign_69 rfl (lv_at hl 0 rfl) ?_
        refine lv_bipush (v := 87) hx hb dX11_sign_70 lb_87 ?_
        refine lv_isub hx hb dX11_sign_72 ?_
        refine lv_goto (tgt := 77) hx hb dX11_sign_73 (by decide) ?_
        refine lv_istore_n (lv' := [(3, .int ((0 : Int32) - (87 : Int32))), (2, .int (0 : Int32)), (0, .ref (xx 0)), (1, .int x1)]) hx hb dX11_sign_77 rfl hl (Nat.le_of_ble_eq_true rfl) rfl (fun ls hl => ?_)
        refine lv_iload_n hx hb dX11_sign_78 rfl (lv_at hl 0 rfl) ?_
        refine lv_if_lt (tgt := 90) hx hb dX11_sign_79 (by decide) (fun c10 => ?_) (fun c10 => ?_)
        · have h := if_t c10 h
          refine lv_aload_n hx hb dX11_sign_90 rfl (lv_at hl 2 rfl) ?_
          obtain ⟨r11, hc12, h⟩ := bd_ex h
          refine sl_V (q0 := 0) (ci := 11) (C := RX11) K (mX11_fail l G F xx σxx hc12) tw_5_5 tw_1_12 tw_5_4 tw_0_4 tw_5_2 cdX11_fail ⟨Nat.le_of_ble_eq_true rfl, Nat.le_of_ble_eq_true rfl⟩ hP hD hS [0] rfl rfl rfl rfl rfl rfl rfl hl.1 (Nat.le_of_ble_eq_true rfl) ⟨Nat.zero_le _, Nat.zero_le _⟩ dX11_sign_91 (fun H locs hP hD hS => ?_)
          have hP : va_P G.1 vwCl (List.flatten [wX G xx r11]) H := hP
          have hD : va_D A (List.flatten [wX G xx r11]) := hD
          refine lv_iconst (v := 0) hx hb dX11_sign_94 li_0 ?_
          cases h
          exact rt_i K hP hD hS dX11_sign_95
        · have h := if_f c10 h
          refine lv_iload_n hx hb dX11_sign_82 rfl (lv_at hl 3 rfl) ?_
          refine lv_iload_n hx hb dX11_sign_83 rfl (lv_at hl 0 rfl) ?_
          refine lv_ishr hx hb dX11_sign_84 ?_
          refine lv_iconst (v := 1) hx hb dX11_sign_85 li_1 ?_
          refine lv_iand hx hb dX11_sign_86 ?_
          refine lv_if_ne (tgt := 96) hx hb dX11_sign_87 (by decide) (fun c13 => ?_) (fun c13 => ?_)
          · have h := if_f c13 h
            refine lv_aload_n hx hb dX11_sign_96 rfl (lv_at hl 2 rfl) ?_
            refine lv_dup hx hb dX11_sign_97 rfl ?_
            refine va_get (D := G.1) (cl := vwCl) (tys := tysG G) (ci := 11) (v := .int (σxx.1 17)) (C := RX11) (T := TX11) (N := 37) hx hb hts iX11 hown hG.1 hP 0 rfl rfl 17 (Nat.le_of_ble_eq_true rfl) (hts _ tw_4_114) (fun _ h9 => h9) rfl dX11_sign_98 ?_
            refine lv_iconst (v := 1) hx hb dX11_sign_101 li_1 ?_
            refine lv_iadd hx hb dX11_sign_102 ?_
            obtain ⟨s14, e15, h⟩ := nm_ex h
            refine va_put (D := G.1) (cl := vwCl) (tys := tysG G) (ci := 11) (v := .int ((σxx.1 17) + (1 : Int32))) (ty := .int) (C := RX11) (T := TX11) (N := 37) hx hb hts iX11 tyX11 tyX11_ok nmX11 hown hG.1 hP hD hS 0 rfl rfl 17 (Nat.le_of_ble_eq_true rfl) (hts _ tw_4_114) (fun _ h9 => h9) rfl (by decide +kernel) rfl rfl (Nat.le_of_ble_eq_true rfl) dX11_sign_103 (fun H locs hP hD hS => ?_)
            have hP : va_P G.1 vwCl (List.flatten [wX G xx s14]) H := by rw [e15]; exact hP
            have hD : va_D A (List.flatten [wX G xx s14]) := by rw [e15]; exact hD
            refine lv_iload_n hx hb dX11_sign_106 rfl (lv_at hl 0 rfl) ?_
            cases h
            exact rt_i K hP hD hS dX11_sign_107
          · have h := if_t c13 h
            refine lv_aload_n hx hb dX11_sign_90 rfl (lv_at hl 2 rfl) ?_
            obtain ⟨r16, hc17, h⟩ := bd_ex h
            refine sl_V (q0 := 0) (ci := 11) (C := RX11) K (mX11_fail l G F xx σxx hc17) tw_5_5 tw_1_12 tw_5_4 tw_0_4 tw_5_2 cdX11_fail ⟨Nat.le_of_ble_eq_true rfl, Nat.le_of_ble_eq_true rfl⟩ hP hD hS [0] rfl rfl rfl rfl rfl rfl rfl hl.1 (Nat.le_of_ble_eq_true rfl) ⟨Nat.zero_le _, Nat.zero_le _⟩ dX11_sign_91 (fun H locs hP hD hS => ?_)
            have hP : va_P G.1 vwCl (List.flatten [wX G xx r16]) H := hP
            have hD : va_D A (List.flatten [wX G xx r16]) := hD
            refine lv_iconst (v := 0) hx hb dX11_sign_94 li_0 ?_
            cases h
            exact rt_i K hP hD hS dX11_sign_95
    · have h := if_f c4 h
      refine lv_iload_n hx hb dX11_sign_48 rfl (lv_at hl 0 rfl) ?_
      refine lv_bipush (v := 48) hx hb dX11_sign_49 lb_48 ?_
      refine lv_isub hx hb dX11_sign_51 ?_
      refine lv_goto (tgt := 77) hx hb dX11_sign_52 (by decide) ?_
      refine lv_istore_n (lv' := [(3, .int ((0 : Int32) - (48 : Int32))), (2, .int (0 : Int32)), (0, .ref (xx 0)), (1, .int x1)]) hx hb dX11_sign_77 rfl hl (Nat.le_of_ble_eq_true rfl) rfl (fun ls hl => ?_)
      refine lv_iload_n hx hb dX11_sign_78 rfl (lv_at hl 0 rfl) ?_
      refine lv_if_lt (tgt := 90) hx hb dX11_sign_79 (by decide) (fun c18 => ?_) (fun c18 => ?_)
      · have h := if_t c18 h
        refine lv_aload_n hx hb dX11_sign_90 rfl (lv_at hl 2 rfl) ?_
        obtain ⟨r19, hc20, h⟩ := bd_ex h
        refine sl_V (q0 := 0) (ci := 11) (C := RX11) K (mX11_fail l G F xx σxx hc20) tw_5_5 tw_1_12 tw_5_4 tw_0_4 tw_5_2 cdX11_fail ⟨Nat.le_of_ble_eq_true rfl, Nat.le_of_ble_eq_true rfl⟩ hP hD hS [0] rfl rfl rfl rfl rfl rfl rfl hl.1 (Nat.le_of_ble_eq_true rfl) ⟨Nat.zero_le _, Nat.zero_le _⟩ dX11_sign_91 (fun H locs hP hD hS => ?_)
        have hP : va_P G.1 vwCl (List.flatten [wX G xx r19]) H := hP
        have hD : va_D A (List.flatten [wX G xx r19]) := hD
        refine lv_iconst (v := 0) hx hb dX11_sign_94 li_0 ?_
        cases h
        exact rt_i K hP hD hS dX11_sign_95
      · have h := if_f c18 h
        refine lv_iload_n hx hb dX11_sign_82 rfl (lv_at hl 3 rfl) ?_
        refine lv_iload_n hx hb dX11_sign_83 rfl (lv_at hl 0 rfl) ?_
        refine lv_ishr hx hb dX11_sign_84 ?_
        refine lv_iconst (v := 1) hx hb dX11_sign_85 li_1 ?_
        refine lv_iand hx hb dX11_sign_86 ?_
        refine lv_if_ne (tgt := 96) hx hb dX11_sign_87 (by decide) (fun c21 => ?_) (fun c21 => ?_)
        · have h := if_f c21 h
          refine lv_aload_n hx hb dX11_sign_96 rfl (lv_at hl 2 rfl) ?_
          refine lv_dup hx hb dX11_sign_97 rfl ?_
          refine va_get (D := G.1) (cl := vwCl) (tys := tysG G) (ci := 11) (v := .int (σxx.1 17)) (C := RX11) (T := TX11) (N := 37) hx hb hts iX11 hown hG.1 hP 0 rfl rfl 17 (Nat.le_of_ble_eq_true rfl) (hts _ tw_4_114) (fun _ h9 => h9) rfl dX11_sign_98 ?_
          refine lv_iconst (v := 1) hx hb dX11_sign_101 li_1 ?_
          refine lv_iadd hx hb dX11_sign_102 ?_
          obtain ⟨s22, e23, h⟩ := nm_ex h
          refine va_put (D := G.1) (cl := vwCl) (tys := tysG G) (ci := 11) (v := .int ((σxx.1 17) + (1 : Int32))) (ty := .int) (C := RX11) (T := TX11) (N := 37) hx hb hts iX11 tyX11 tyX11_ok nmX11 hown hG.1 hP hD hS 0 rfl rfl 17 (Nat.le_of_ble_eq_true rfl) (hts _ tw_4_114) (fun _ h9 => h9) rfl (by decide +kernel) rfl rfl (Nat.le_of_ble_eq_true rfl) dX11_sign_103 (fun H locs hP hD hS => ?_)
          have hP : va_P G.1 vwCl (List.flatten [wX G xx s22]) H := by rw [e23]; exact hP
          have hD : va_D A (List.flatten [wX G xx s22]) := by rw [e23]; exact hD
          refine lv_iload_n hx hb dX11_sign_106 rfl (lv_at hl 0 rfl) ?_
          cases h
          exact rt_i K hP hD hS dX11_sign_107
        · have h := if_t c21 h
          refine lv_aload_n hx hb dX11_sign_90 rfl (lv_at hl 2 rfl) ?_
          obtain ⟨r24, hc25, h⟩ := bd_ex h
          refine sl_V (q0 := 0) (ci := 11) (C := RX11) K (mX11_fail l G F xx σxx hc25) tw_5_5 tw_1_12 tw_5_4 tw_0_4 tw_5_2 cdX11_fail ⟨Nat.le_of_ble_eq_true rfl, Nat.le_of_ble_eq_true rfl⟩ hP hD hS [0] rfl rfl rfl rfl rfl rfl rfl hl.1 (Nat.le_of_ble_eq_true rfl) ⟨Nat.zero_le _, Nat.zero_le _⟩ dX11_sign_91 (fun H locs hP hD hS => ?_)
          have hP : va_P G.1 vwCl (List.flatten [wX G xx r24]) H := hP
          have hD : va_D A (List.flatten [wX G xx r24]) := hD
          refine lv_iconst (v := 0) hx hb dX11_sign_94 li_0 ?_
          cases h
          exact rt_i K hP hD hS dX11_sign_95
  · have h := if_t c1 h
    refine lv_aload_n hx hb dX11_sign_9 rfl (lv_at hl 0 rfl) ?_
    refine va_get (D := G.1) (cl := vwCl) (tys := tysG G) (ci := 11) (v := .int (σxx.1 17)) (C := RX11) (T := TX11) (N := 37) hx hb hts iX11 hown hG.1 hP 0 rfl rfl 17 (Nat.le_of_ble_eq_true rfl) (hts _ tw_4_114) (fun _ h9 => h9) rfl dX11_sign_10 ?_
    refine lv_aload_n hx hb dX11_sign_13 rfl (lv_at hl 0 rfl) ?_
    refine va_get (D := G.1) (cl := vwCl) (tys := tysG G) (ci := 11) (v := .int (σxx.1 16)) (C := RX11) (T := TX11) (N := 37) hx hb hts iX11 hown hG.1 hP 0 rfl rfl 16 (Nat.le_of_ble_eq_true rfl) (hts _ tw_4_113) (fun _ h9 => h9) rfl dX11_sign_14 ?_
    refine lv_icmp_ge (tgt := 32) hx hb dX11_sign_17 (by decide) (fun c26 => ?_) (fun c26 => ?_)
    · have h := if_t c26 h
      refine lv_iconst (v := 0) hx hb dX11_sign_32 li_0 ?_
      refine lv_istore_n (lv' := [(2, .int (0 : Int32)), (0, .ref (xx 0)), (1, .int x1)]) hx hb dX11_sign_33 rfl hl (Nat.le_of_ble_eq_true rfl) rfl (fun ls hl => ?_)
      refine lv_iload_n hx hb dX11_sign_34 rfl (lv_at hl 0 rfl) ?_
      refine lv_i2l (v := (0 : Int32).toInt64) hx hb dX11_sign_35 rfl ?_
      refine lv_ldc2 (v := 48) hx hb hown (hts _ tw_5_14) dX11_sign_36 ?_
      refine lv_ldc2 (v := 57) hx hb hown (hts _ tw_5_15) dX11_sign_39 ?_
      obtain ⟨r27, hc28, h⟩ := bd_ex h
      refine sl_S K (mX11_in l G F ((0 : Int32).toInt64) (48 : Int64) (57 : Int64) hc28) tw_4_217 tw_1_12 tw_4_216 tw_4_215 cdX11_in ⟨Nat.le_of_ble_eq_true rfl, Nat.le_of_ble_eq_true rfl⟩ hP hD hS [] rfl rfl rfl rfl hl.1 (Nat.le_of_ble_eq_true rfl) ⟨Nat.zero_le _, Nat.zero_le _⟩ dX11_sign_42 (fun H locs hP hD hS => ?_)
      have hP : va_P G.1 vwCl (List.flatten [wX G xx σxx]) H := hP
      have hD : va_D A (List.flatten [wX G xx σxx]) := hD
      refine lv_if_eq (tgt := 55) hx hb dX11_sign_45 (by decide) (fun c29 => ?_) (fun c29 => ?_)
      · have h := if_t c29 h
        refine lv_iload_n hx hb dX11_sign_55 rfl (lv_at hl 0 rfl) ?_
        refine lv_i2l (v := (0 : Int32).toInt64) hx hb dX11_sign_56 rfl ?_
        refine lv_ldc2 (v := 97) hx hb hown (hts _ tw_5_16) dX11_sign_57 ?_
        refine lv_ldc2 (v := 102) hx hb hown (hts _ tw_5_17) dX11_sign_60 ?_
        obtain ⟨r30, hc31, h⟩ := bd_ex h
        refine sl_S K (mX11_in l G F ((0 : Int32).toInt64) (97 : Int64) (102 : Int64) hc31) tw_4_217 tw_1_12 tw_4_216 tw_4_215 cdX11_in ⟨Nat.le_of_ble_eq_true rfl, Nat.le_of_ble_eq_true rfl⟩ hP hD hS [] rfl rfl rfl rfl hl.1 (Nat.le_of_ble_eq_true rfl) ⟨Nat.zero_le _, Nat.zero_le _⟩ dX11_sign_63 (fun H locs hP hD hS => ?_)
        have hP : va_P G.1 vwCl (List.flatten [wX G xx σxx]) H := hP
        have hD : va_D A (List.flatten [wX G xx σxx]) := hD
        refine lv_if_eq (tgt := 76) hx hb dX11_sign_66 (by decide) (fun c32 => ?_) (fun c32 => ?_)
        · have h := if_t c32 h
          refine lv_iconst (v := -1) hx hb dX11_sign_76 li_m1 ?_
          refine lv_istore_n (lv' := [(3, .int (-1 : Int32)), (2, .int (0 : Int32)), (0, .ref (xx 0)), (1, .int x1)]) hx hb dX11_sign_77 rfl hl (Nat.le_of_ble_eq_true rfl) rfl (fun ls hl => ?_)
          refine lv_iload_n hx hb dX11_sign_78 rfl (lv_at hl 0 rfl) ?_
          refine lv_if_lt (tgt := 90) hx hb dX11_sign_79 (by decide) (fun c9 => ?_) (fun c9 => absurd c9 (by decide))
          refine lv_aload_n hx hb dX11_sign_90 rfl (lv_at hl 2 rfl) ?_
          obtain ⟨r33, hc34, h⟩ := bd_ex h
          refine sl_V (q0 := 0) (ci := 11) (C := RX11) K (mX11_fail l G F xx σxx hc34) tw_5_5 tw_1_12 tw_5_4 tw_0_4 tw_5_2 cdX11_fail ⟨Nat.le_of_ble_eq_true rfl, Nat.le_of_ble_eq_true rfl⟩ hP hD hS [0] rfl rfl rfl rfl rfl rfl rfl hl.1 (Nat.le_of_ble_eq_true rfl) ⟨Nat.zero_le _, Nat.zero_le _⟩ dX11_sign_91 (fun H locs hP hD hS => ?_)
          have hP : va_P G.1 vwCl (List.flatten [wX G xx r33]) H := hP
          have hD : va_D A (List.flatten [wX G xx r33]) := hD
          refine lv_iconst (v := 0) hx hb dX11_sign_94 li_0 ?_
          cases h
          exact rt_i K hP hD hS dX11_sign_95
        · have h := if_f c32 h
          refine lv_iload_n hx hb dX11_sign_69 rfl (lv_at hl 0 rfl) ?_
          refine lv_bipush (v := 87) hx hb dX11_sign_70 lb_87 ?_
          refine lv_isub hx hb dX11_sign_72 ?_
          refine lv_goto (tgt := 77) hx hb dX11_sign_73 (by decide) ?_
          refine lv_istore_n (lv' := [(3, .int ((0 : Int32) - (87 : Int32))), (2, .int (0 : Int32)), (0, .ref (xx 0)), (1, .int x1)]) hx hb dX11_sign_77 rfl hl (Nat.le_of_ble_eq_true rfl) rfl (fun ls hl => ?_)
          refine lv_iload_n hx hb dX11_sign_78 rfl (lv_at hl 0 rfl) ?_
          refine lv_if_lt (tgt := 90) hx hb dX11_sign_79 (by decide) (fun c35 => ?_) (fun c35 => ?_)
          · have h := if_t c35 h
            refine lv_aload_n hx hb dX11_sign_90 rfl (lv_at hl 2 rfl) ?_
            obtain ⟨r36, hc37, h⟩ := bd_ex h
            refine sl_V (q0 := 0) (ci := 11) (C := RX11) K (mX11_fail l G F xx σxx hc37) tw_5_5 tw_1_12 tw_5_4 tw_0_4 tw_5_2 cdX11_fail ⟨Nat.le_of_ble_eq_true rfl, Nat.le_of_ble_eq_true rfl⟩ hP hD hS [0] rfl rfl rfl rfl rfl rfl rfl hl.1 (Nat.le_of_ble_eq_true rfl) ⟨Nat.zero_le _, Nat.zero_le _⟩ dX11_sign_91 (fun H locs hP hD hS => ?_)
            have hP : va_P G.1 vwCl (List.flatten [wX G xx r36]) H := hP
            have hD : va_D A (List.flatten [wX G xx r36]) := hD
            refine lv_iconst (v := 0) hx hb dX11_sign_94 li_0 ?_
            cases h
            exact rt_i K hP hD hS dX11_sign_95
          · have h := if_f c35 h
            refine lv_iload_n hx hb dX11_sign_82 rfl (lv_at hl 3 rfl) ?_
            refine lv_iload_n hx hb dX11_sign_83 rfl (lv_at hl 0 rfl) ?_
            refine lv_ishr hx hb dX11_sign_84 ?_
            refine lv_iconst (v := 1) hx hb dX11_sign_85 li_1 ?_
            refine lv_iand hx hb dX11_sign_86 ?_
            refine lv_if_ne (tgt := 96) hx hb dX11_sign_87 (by decide) (fun c38 => ?_) (fun c38 => ?_)
            · have h := if_f c38 h
              refine lv_aload_n hx hb dX11_sign_96 rfl (lv_at hl 2 rfl) ?_
              refine lv_dup hx hb dX11_sign_97 rfl ?_
              refine va_get (D := G.1) (cl := vwCl) (tys := tysG G) (ci := 11) (v := .int (σxx.1 17)) (C := RX11) (T := TX11) (N := 37) hx hb hts iX11 hown hG.1 hP 0 rfl rfl 17 (Nat.le_of_ble_eq_true rfl) (hts _ tw_4_114) (fun _ h9 => h9) rfl dX11_sign_98 ?_
              refine lv_iconst (v := 1) hx hb dX11_sign_101 li_1 ?_
              refine lv_iadd hx hb dX11_sign_102 ?_
              obtain ⟨s39, e40, h⟩ := nm_ex h
              refine va_put (D := G.1) (cl := vwCl) (tys := tysG G) (ci := 11) (v := .int ((σxx.1 17) + (1 : Int32))) (ty := .int) (C := RX11) (T := TX11) (N := 37) hx hb hts iX11 tyX11 tyX11_ok nmX11 hown hG.1 hP hD hS 0 rfl rfl 17 (Nat.le_of_ble_eq_true rfl) (hts _ tw_4_114) (fun _ h9 => h9) rfl (by decide +kernel) rfl rfl (Nat.le_of_ble_eq_true rfl) dX11_sign_103 (fun H locs hP hD hS => ?_)
              have hP : va_P G.1 vwCl (List.flatten [wX G xx s39]) H := by rw [e40]; exact hP
              have hD : va_D A (List.flatten [wX G xx s39]) := by rw [e40]; exact hD
              refine lv_iload_n hx hb dX11_sign_106 rfl (lv_at hl 0 rfl) ?_
              cases h
              exact rt_i K hP hD hS dX11_sign_107
            · have h := if_t c38 h
              refine lv_aload_n hx hb dX11_sign_90 rfl (lv_at hl 2 rfl) ?_
              obtain ⟨r41, hc42, h⟩ := bd_ex h
              refine sl_V (q0 := 0) (ci := 11) (C := RX11) K (mX11_fail l G F xx σxx hc42) tw_5_5 tw_1_12 tw_5_4 tw_0_4 tw_5_2 cdX11_fail ⟨Nat.le_of_ble_eq_true rfl, Nat.le_of_ble_eq_true rfl⟩ hP hD hS [0] rfl rfl rfl rfl rfl rfl rfl hl.1 (Nat.le_of_ble_eq_true rfl) ⟨Nat.zero_le _, Nat.zero_le _⟩ dX11_sign_91 (fun H locs hP hD hS => ?_)
              have hP : va_P G.1 vwCl (List.flatten [wX G xx r41]) H := hP
              have hD : va_D A (List.flatten [wX G xx r41]) := hD
              refine lv_iconst (v := 0) hx hb dX11_sign_94 li_0 ?_
              cases h
              exact rt_i K hP hD hS dX11_sign_95
      · have h := if_f c29 h
        refine lv_iload_n hx hb dX11_sign_48 rfl (lv_at hl 0 rfl) ?_
        refine lv_bipush (v := 48) hx hb dX11_sign_49 lb_48 ?_
        refine lv_isub hx hb dX11_sign_51 ?_
        refine lv_goto (tgt := 77) hx hb dX11_sign_52 (by decide) ?_
        refine lv_istore_n (lv' := [(3, .int ((0 : Int32) - (48 : Int32))), (2, .int (0 : Int32)), (0, .ref (xx 0)), (1, .int x1)]) hx hb dX11_sign_77 rfl hl (Nat.le_of_ble_eq_true rfl) rfl (fun ls hl => ?_)
        refine lv_iload_n hx hb dX11_sign_78 rfl (lv_at hl 0 rfl) ?_
        refine lv_if_lt (tgt := 90) hx hb dX11_sign_79 (by decide) (fun c43 => ?_) (fun c43 => ?_)
        · have h := if_t c43 h
          refine lv_aload_n hx hb dX11_sign_90 rfl (lv_at hl 2 rfl) ?_
          obtain ⟨r44, hc45, h⟩ := bd_ex h
          refine sl_V (q0 := 0) (ci := 11) (C := RX11) K (mX11_fail l G F xx σxx hc45) tw_5_5 tw_1_12 tw_5_4 tw_0_4 tw_5_2 cdX11_fail ⟨Nat.le_of_ble_eq_true rfl, Nat.le_of_ble_eq_true rfl⟩ hP hD hS [0] rfl rfl rfl rfl rfl rfl rfl hl.1 (Nat.le_of_ble_eq_true rfl) ⟨Nat.zero_le _, Nat.zero_le _⟩ dX11_sign_91 (fun H locs hP hD hS => ?_)
          have hP : va_P G.1 vwCl (List.flatten [wX G xx r44]) H := hP
          have hD : va_D A (List.flatten [wX G xx r44]) := hD
          refine lv_iconst (v := 0) hx hb dX11_sign_94 li_0 ?_
          cases h
          exact rt_i K hP hD hS dX11_sign_95
        · have h := if_f c43 h
          refine lv_iload_n hx hb dX11_sign_82 rfl (lv_at hl 3 rfl) ?_
          refine lv_iload_n hx hb dX11_sign_83 rfl (lv_at hl 0 rfl) ?_
          refine lv_ishr hx hb dX11_sign_84 ?_
          refine lv_iconst (v := 1) hx hb dX11_sign_85 li_1 ?_
          refine lv_iand hx hb dX11_sign_86 ?_
          refine lv_if_ne (tgt := 96) hx hb dX11_sign_87 (by decide) (fun c46 => ?_) (fun c46 => ?_)
          · have h := if_f c46 h
            refine lv_aload_n hx hb dX11_sign_96 rfl (lv_at hl 2 rfl) ?_
            refine lv_dup hx hb dX11_sign_97 rfl ?_
            refine va_get (D := G.1) (cl := vwCl) (tys := tysG G) (ci := 11) (v := .int (σxx.1 17)) (C := RX11) (T := TX11) (N := 37) hx hb hts iX11 hown hG.1 hP 0 rfl rfl 17 (Nat.le_of_ble_eq_true rfl) (hts _ tw_4_114) (fun _ h9 => h9) rfl dX11_sign_98 ?_
            refine lv_iconst (v := 1) hx hb dX11_sign_101 li_1 ?_
            refine lv_iadd hx hb dX11_sign_102 ?_
            obtain ⟨s47, e48, h⟩ := nm_ex h
            refine va_put (D := G.1) (cl := vwCl) (tys := tysG G) (ci := 11) (v := .int ((σxx.1 17) + (1 : Int32))) (ty := .int) (C := RX11) (T := TX11) (N := 37) hx hb hts iX11 tyX11 tyX11_ok nmX11 hown hG.1 hP hD hS 0 rfl rfl 17 (Nat.le_of_ble_eq_true rfl) (hts _ tw_4_114) (fun _ h9 => h9) rfl (by decide +kernel) rfl rfl (Nat.le_of_ble_eq_true rfl) dX11_sign_103 (fun H locs hP hD hS => ?_)
            have hP : va_P G.1 vwCl (List.flatten [wX G xx s47]) H := by rw [e48]; exact hP
            have hD : va_D A (List.flatten [wX G xx s47]) := by rw [e48]; exact hD
            refine lv_iload_n hx hb dX11_sign_106 rfl (lv_at hl 0 rfl) ?_
            cases h
            exact rt_i K hP hD hS dX11_sign_107
          · have h := if_t c46 h
            refine lv_aload_n hx hb dX11_sign_90 rfl (lv_at hl 2 rfl) ?_
            obtain ⟨r49, hc50, h⟩ := bd_ex h
            refine sl_V (q0 := 0) (ci := 11) (C := RX11) K (mX11_fail l G F xx σxx hc50) tw_5_5 tw_1_12 tw_5_4 tw_0_4 tw_5_2 cdX11_fail ⟨Nat.le_of_ble_eq_true rfl, Nat.le_of_ble_eq_true rfl⟩ hP hD hS [0] rfl rfl rfl rfl rfl rfl rfl hl.1 (Nat.le_of_ble_eq_true rfl) ⟨Nat.zero_le _, Nat.zero_le _⟩ dX11_sign_91 (fun H locs hP hD hS => ?_)
            have hP : va_P G.1 vwCl (List.flatten [wX G xx r49]) H := hP
            have hD : va_D A (List.flatten [wX G xx r49]) := hD
            refine lv_iconst (v := 0) hx hb dX11_sign_94 li_0 ?_
            cases h
            exact rt_i K hP hD hS dX11_sign_95
    · have h := if_f c26 h
      refine lv_aload_n hx hb dX11_sign_20 rfl (lv_at hl 0 rfl) ?_
      refine va_get (D := G.1) (cl := vwCl) (tys := tysG G) (ci := 11) (v := .ref (xx 16)) (C := RX11) (T := TX11) (N := 37) hx hb hts iX11 hown hG.1 hP 0 rfl rfl 15 (Nat.le_of_ble_eq_true rfl) (hts _ tw_4_112) (fun _ h9 => h9) rfl dX11_sign_21 ?_
      refine lv_aload_n hx hb dX11_sign_24 rfl (lv_at hl 0 rfl) ?_
      refine va_get (D := G.1) (cl := vwCl) (tys := tysG G) (ci := 11) (v := .int (σxx.1 17)) (C := RX11) (T := TX11) (N := 37) hx hb hts iX11 hown hG.1 hP 0 rfl rfl 17 (Nat.le_of_ble_eq_true rfl) (hts _ tw_4_114) (fun _ h9 => h9) rfl dX11_sign_25 ?_
      obtain ⟨ck51, h⟩ := ck h
      refine va_iald hx hb hG.1 hP 9 0 rfl rfl ck51 dX11_sign_28 ?_
      refine lv_goto (tgt := 33) hx hb dX11_sign_29 (by decide) ?_
      refine lv_istore_n (lv' := [(2, .int (σxx.2.1 15 (σxx.1 17).toNatClampNeg)), (0, .ref (xx 0)), (1, .int x1)]) hx hb dX11_sign_33 rfl hl (Nat.le_of_ble_eq_true rfl) rfl (fun ls hl => ?_)
      refine lv_iload_n hx hb dX11_sign_34 rfl (lv_at hl 0 rfl) ?_
      refine lv_i2l (v := (σxx.2.1 15 (σxx.1 17).toNatClampNeg).toInt64) hx hb dX11_sign_35 rfl ?_
      refine lv_ldc2 (v := 48) hx hb hown (hts _ tw_5_14) dX11_sign_36 ?_
      refine lv_ldc2 (v := 57) hx hb hown (hts _ tw_5_15) dX11_sign_39 ?_
      obtain ⟨r52, hc53, h⟩ := bd_ex h
      refine sl_S K (mX11_in l G F ((σxx.2.1 15 (σxx.1 17).toNatClampNeg).toInt64) (48 : Int64) (57 : Int64) hc53) tw_4_217 tw_1_12 tw_4_216 tw_4_215 cdX11_in ⟨Nat.le_of_ble_eq_true rfl, Nat.le_of_ble_eq_true rfl⟩ hP hD hS [] rfl rfl rfl rfl hl.1 (Nat.le_of_ble_eq_true rfl) ⟨Nat.zero_le _, Nat.zero_le _⟩ dX11_sign_42 (fun H locs hP hD hS => ?_)
      have hP : va_P G.1 vwCl (List.flatten [wX G xx σxx]) H := hP
      have hD : va_D A (List.flatten [wX G xx σxx]) := hD
      refine lv_if_eq (tgt := 55) hx hb dX11_sign_45 (by decide) (fun c54 => ?_) (fun c54 => ?_)
      · have h := if_t c54 h
        refine lv_iload_n hx hb dX11_sign_55 rfl (lv_at hl 0 rfl) ?_
        refine lv_i2l (v := (σxx.2.1 15 (σxx.1 17).toNatClampNeg).toInt64) hx hb dX11_sign_56 rfl ?_
        refine lv_ldc2 (v := 97) hx hb hown (hts _ tw_5_16) dX11_sign_57 ?_
        refine lv_ldc2 (v := 102) hx hb hown (hts _ tw_5_17) dX11_sign_60 ?_
        obtain ⟨r55, hc56, h⟩ := bd_ex h
        refine sl_S K (mX11_in l G F ((σxx.2.1 15 (σxx.1 17).toNatClampNeg).toInt64) (97 : Int64) (102 : Int64) hc56) tw_4_217 tw_1_12 tw_4_216 tw_4_215 cdX11_in ⟨Nat.le_of_ble_eq_true rfl, Nat.le_of_ble_eq_true rfl⟩ hP hD hS [] rfl rfl rfl rfl hl.1 (Nat.le_of_ble_eq_true rfl) ⟨Nat.zero_le _, Nat.zero_le _⟩ dX11_sign_63 (fun H locs hP hD hS => ?_)
        have hP : va_P G.1 vwCl (List.flatten [wX G xx σxx]) H := hP
        have hD : va_D A (List.flatten [wX G xx σxx]) := hD
        refine lv_if_eq (tgt := 76) hx hb dX11_sign_66 (by decide) (fun c57 => ?_) (fun c57 => ?_)
        · have h := if_t c57 h
          refine lv_iconst (v := -1) hx hb dX11_sign_76 li_m1 ?_
          refine lv_istore_n (lv' := [(3, .int (-1 : Int32)), (2, .int (σxx.2.1 15 (σxx.1 17).toNatClampNeg)), (0, .ref (xx 0)), (1, .int x1)]) hx hb dX11_sign_77 rfl hl (Nat.le_of_ble_eq_true rfl) rfl (fun ls hl => ?_)
          refine lv_iload_n hx hb dX11_sign_78 rfl (lv_at hl 0 rfl) ?_
          refine lv_if_lt (tgt := 90) hx hb dX11_sign_79 (by decide) (fun c9 => ?_) (fun c9 => absurd c9 (by decide))
          refine lv_aload_n hx hb dX11_sign_90 rfl (lv_at hl 2 rfl) ?_
          obtain ⟨r58, hc59, h⟩ := bd_ex h
          refine sl_V (q0 := 0) (ci := 11) (C := RX11) K (mX11_fail l G F xx σxx hc59) tw_5_5 tw_1_12 tw_5_4 tw_0_4 tw_5_2 cdX11_fail ⟨Nat.le_of_ble_eq_true rfl, Nat.le_of_ble_eq_true rfl⟩ hP hD hS [0] rfl rfl rfl rfl rfl rfl rfl hl.1 (Nat.le_of_ble_eq_true rfl) ⟨Nat.zero_le _, Nat.zero_le _⟩ dX11_sign_91 (fun H locs hP hD hS => ?_)
          have hP : va_P G.1 vwCl (List.flatten [wX G xx r58]) H := hP
          have hD : va_D A (List.flatten [wX G xx r58]) := hD
          refine lv_iconst (v := 0) hx hb dX11_sign_94 li_0 ?_
          cases h
          exact rt_i K hP hD hS dX11_sign_95
        · have h := if_f c57 h
          refine lv_iload_n hx hb dX11_sign_69 rfl (lv_at hl 0 rfl) ?_
          refine lv_bipush (v := 87) hx hb dX11_sign_70 lb_87 ?_
          refine lv_isub hx hb dX11_sign_72 ?_
          refine lv_goto (tgt := 77) hx hb dX11_sign_73 (by decide) ?_
          refine lv_istore_n (lv' := [(3, .int ((σxx.2.1 15 (σxx.1 17).toNatClampNeg) - (87 : Int32))), (2, .int (σxx.2.1 15 (σxx.1 17).toNatClampNeg)), (0, .ref (xx 0)), (1, .int x1)]) hx hb dX11_sign_77 rfl hl (Nat.le_of_ble_eq_true rfl) rfl (fun ls hl => ?_)
          refine lv_iload_n hx hb dX11_sign_78 rfl (lv_at hl 0 rfl) ?_
          refine lv_if_lt (tgt := 90) hx hb dX11_sign_79 (by decide) (fun c60 => ?_) (fun c60 => ?_)
          · have h := if_t c60 h
            refine lv_aload_n hx hb dX11_sign_90 rfl (lv_at hl 2 rfl) ?_
            obtain ⟨r61, hc62, h⟩ := bd_ex h
            refine sl_V (q0 := 0) (ci := 11) (C := RX11) K (mX11_fail l G F xx σxx hc62) tw_5_5 tw_1_12 tw_5_4 tw_0_4 tw_5_2 cdX11_fail ⟨Nat.le_of_ble_eq_true rfl, Nat.le_of_ble_eq_true rfl⟩ hP hD hS [0] rfl rfl rfl rfl rfl rfl rfl hl.1 (Nat.le_of_ble_eq_true rfl) ⟨Nat.zero_le _, Nat.zero_le _⟩ dX11_sign_91 (fun H locs hP hD hS => ?_)
            have hP : va_P G.1 vwCl (List.flatten [wX G xx r61]) H := hP
            have hD : va_D A (List.flatten [wX G xx r61]) := hD
            refine lv_iconst (v := 0) hx hb dX11_sign_94 li_0 ?_
            cases h
            exact rt_i K hP hD hS dX11_sign_95
          · have h := if_f c60 h
            refine lv_iload_n hx hb dX11_sign_82 rfl (lv_at hl 3 rfl) ?_
            refine lv_iload_n hx hb dX11_sign_83 rfl (lv_at hl 0 rfl) ?_
            refine lv_ishr hx hb dX11_sign_84 ?_
            refine lv_iconst (v := 1) hx hb dX11_sign_85 li_1 ?_
            refine lv_iand hx hb dX11_sign_86 ?_
            refine lv_if_ne (tgt := 96) hx hb dX11_sign_87 (by decide) (fun c63 => ?_) (fun c63 => ?_)
            · have h := if_f c63 h
              refine lv_aload_n hx hb dX11_sign_96 rfl (lv_at hl 2 rfl) ?_
              refine lv_dup hx hb dX11_sign_97 rfl ?_
              refine va_get (D := G.1) (cl := vwCl) (tys := tysG G) (ci := 11) (v := .int (σxx.1 17)) (C := RX11) (T := TX11) (N := 37) hx hb hts iX11 hown hG.1 hP 0 rfl rfl 17 (Nat.le_of_ble_eq_true rfl) (hts _ tw_4_114) (fun _ h9 => h9) rfl dX11_sign_98 ?_
              refine lv_iconst (v := 1) hx hb dX11_sign_101 li_1 ?_
              refine lv_iadd hx hb dX11_sign_102 ?_
              obtain ⟨s64, e65, h⟩ := nm_ex h
              refine va_put (D := G.1) (cl := vwCl) (tys := tysG G) (ci := 11) (v := .int ((σxx.1 17) + (1 : Int32))) (ty := .int) (C := RX11) (T := TX11) (N := 37) hx hb hts iX11 tyX11 tyX11_ok nmX11 hown hG.1 hP hD hS 0 rfl rfl 17 (Nat.le_of_ble_eq_true rfl) (hts _ tw_4_114) (fun _ h9 => h9) rfl (by decide +kernel) rfl rfl (Nat.le_of_ble_eq_true rfl) dX11_sign_103 (fun H locs hP hD hS => ?_)
              have hP : va_P G.1 vwCl (List.flatten [wX G xx s64]) H := by rw [e65]; exact hP
              have hD : va_D A (List.flatten [wX G xx s64]) := by rw [e65]; exact hD
              refine lv_iload_n hx hb dX11_sign_106 rfl (lv_at hl 0 rfl) ?_
              cases h
              exact rt_i K hP hD hS dX11_sign_107
            · have h := if_t c63 h
              refine lv_aload_n hx hb dX11_sign_90 rfl (lv_at hl 2 rfl) ?_
              obtain ⟨r66, hc67, h⟩ := bd_ex h
              refine sl_V (q0 := 0) (ci := 11) (C := RX11) K (mX11_fail l G F xx σxx hc67) tw_5_5 tw_1_12 tw_5_4 tw_0_4 tw_5_2 cdX11_fail ⟨Nat.le_of_ble_eq_true rfl, Nat.le_of_ble_eq_true rfl⟩ hP hD hS [0] rfl rfl rfl rfl rfl rfl rfl hl.1 (Nat.le_of_ble_eq_true rfl) ⟨Nat.zero_le _, Nat.zero_le _⟩ dX11_sign_91 (fun H locs hP hD hS => ?_)
              have hP : va_P G.1 vwCl (List.flatten [wX G xx r66]) H := hP
              have hD : va_D A (List.flatten [wX G xx r66]) := hD
              refine lv_iconst (v := 0) hx hb dX11_sign_94 li_0 ?_
              cases h
              exact rt_i K hP hD hS dX11_sign_95
      · have h := if_f c54 h
        refine lv_iload_n hx hb dX11_sign_48 rfl (lv_at hl 0 rfl) ?_
        refine lv_bipush (v := 48) hx hb dX11_sign_49 lb_48 ?_
        refine lv_isub hx hb dX11_sign_51 ?_
        refine lv_goto (tgt := 77) hx hb dX11_sign_52 (by decide) ?_
        refine lv_istore_n (lv' := [(3, .int ((σxx.2.1 15 (σxx.1 17).toNatClampNeg) - (48 : Int32))), (2, .int (σxx.2.1 15 (σxx.1 17).toNatClampNeg)), (0, .ref (xx 0)), (1, .int x1)]) hx hb dX11_sign_77 rfl hl (Nat.le_of_ble_eq_true rfl) rfl (fun ls hl => ?_)
        refine lv_iload_n hx hb dX11_sign_78 rfl (lv_at hl 0 rfl) ?_
        refine lv_if_lt (tgt := 90) hx hb dX11_sign_79 (by decide) (fun c68 => ?_) (fun c68 => ?_)
        · have h := if_t c68 h
          refine lv_aload_n hx hb dX11_sign_90 rfl (lv_at hl 2 rfl) ?_
          obtain ⟨r69, hc70, h⟩ := bd_ex h
          refine sl_V (q0 := 0) (ci := 11) (C := RX11) K (mX11_fail l G F xx σxx hc70) tw_5_5 tw_1_12 tw_5_4 tw_0_4 tw_5_2 cdX11_fail ⟨Nat.le_of_ble_eq_true rfl, Nat.le_of_ble_eq_true rfl⟩ hP hD hS [0] rfl rfl rfl rfl rfl rfl rfl hl.1 (Nat.le_of_ble_eq_true rfl) ⟨Nat.zero_le _, Nat.zero_le _⟩ dX11_sign_91 (fun H locs hP hD hS => ?_)
          have hP : va_P G.1 vwCl (List.flatten [wX G xx r69]) H := hP
          have hD : va_D A (List.flatten [wX G xx r69]) := hD
          refine lv_iconst (v := 0) hx hb dX11_sign_94 li_0 ?_
          cases h
          exact rt_i K hP hD hS dX11_sign_95
        · have h := if_f c68 h
          refine lv_iload_n hx hb dX11_sign_82 rfl (lv_at hl 3 rfl) ?_
          refine lv_iload_n hx hb dX11_sign_83 rfl (lv_at hl 0 rfl) ?_
          refine lv_ishr hx hb dX11_sign_84 ?_
          refine lv_iconst (v := 1) hx hb dX11_sign_85 li_1 ?_
          refine lv_iand hx hb dX11_sign_86 ?_
          refine lv_if_ne (tgt := 96) hx hb dX11_sign_87 (by decide) (fun c71 => ?_) (fun c71 => ?_)
          · have h := if_f c71 h
            refine lv_aload_n hx hb dX11_sign_96 rfl (lv_at hl 2 rfl) ?_
            refine lv_dup hx hb dX11_sign_97 rfl ?_
            refine va_get (D := G.1) (cl := vwCl) (tys := tysG G) (ci := 11) (v := .int (σxx.1 17)) (C := RX11) (T := TX11) (N := 37) hx hb hts iX11 hown hG.1 hP 0 rfl rfl 17 (Nat.le_of_ble_eq_true rfl) (hts _ tw_4_114) (fun _ h9 => h9) rfl dX11_sign_98 ?_
            refine lv_iconst (v := 1) hx hb dX11_sign_101 li_1 ?_
            refine lv_iadd hx hb dX11_sign_102 ?_
            obtain ⟨s72, e73, h⟩ := nm_ex h
            refine va_put (D := G.1) (cl := vwCl) (tys := tysG G) (ci := 11) (v := .int ((σxx.1 17) + (1 : Int32))) (ty := .int) (C := RX11) (T := TX11) (N := 37) hx hb hts iX11 tyX11 tyX11_ok nmX11 hown hG.1 hP hD hS 0 rfl rfl 17 (Nat.le_of_ble_eq_true rfl) (hts _ tw_4_114) (fun _ h9 => h9) rfl (by decide +kernel) rfl rfl (Nat.le_of_ble_eq_true rfl) dX11_sign_103 (fun H locs hP hD hS => ?_)
            have hP : va_P G.1 vwCl (List.flatten [wX G xx s72]) H := by rw [e73]; exact hP
            have hD : va_D A (List.flatten [wX G xx s72]) := by rw [e73]; exact hD
            refine lv_iload_n hx hb dX11_sign_106 rfl (lv_at hl 0 rfl) ?_
            cases h
            exact rt_i K hP hD hS dX11_sign_107
          · have h := if_t c71 h
            refine lv_aload_n hx hb dX11_sign_90 rfl (lv_at hl 2 rfl) ?_
            obtain ⟨r74, hc75, h⟩ := bd_ex h
            refine sl_V (q0 := 0) (ci := 11) (C := RX11) K (mX11_fail l G F xx σxx hc75) tw_5_5 tw_1_12 tw_5_4 tw_0_4 tw_5_2 cdX11_fail ⟨Nat.le_of_ble_eq_true rfl, Nat.le_of_ble_eq_true rfl⟩ hP hD hS [0] rfl rfl rfl rfl rfl rfl rfl hl.1 (Nat.le_of_ble_eq_true rfl) ⟨Nat.zero_le _, Nat.zero_le _⟩ dX11_sign_91 (fun H locs hP hD hS => ?_)
            have hP : va_P G.1 vwCl (List.flatten [wX G xx r74]) H := hP
            have hD : va_D A (List.flatten [wX G xx r74]) := hD
            refine lv_iconst (v := 0) hx hb dX11_sign_94 li_0 ?_
            cases h
            exact rt_i K hP hD hS dX11_sign_95
def gbX11_freeRows_5 (F : Nat) (σxx : ST) (v1 : Int32) (rc : Int32 → Int32 → Option (Int32 × Int32)) (v2 : Int32) (v3 : Int32) : Option (Int32 × Int32) :=
  if (σxx.1 4) ≤ v3 then
    some (v2, v3)
  else
    if (((3 : Int32) * v3) + (1 : Int32)) < 0 ∨ 24 ≤ (((3 : Int32) * v3) + (1 : Int32)).toNatClampNeg then none else
    if (σxx.2.1 0 (((3 : Int32) * v3) + (1 : Int32)).toNatClampNeg) = v1 then
      if (((3 : Int32) * v3) + (2 : Int32)) < 0 ∨ 24 ≤ (((3 : Int32) * v3) + (2 : Int32)).toNatClampNeg then none else
      nm (v2 &&& (((1 : Int32) <<< ((σxx.2.1 0 (((3 : Int32) * v3) + (2 : Int32)).toNatClampNeg) &&& 31)) ^^^ (-1 : Int32))) fun (y5 : Int32) =>
      rc y5 (v3 + 1)
    else
      rc (v2 &&& (-1 : Int32)) (v3 + 1)
def gX11_freeRows_5 (F : Nat) (σxx : ST) (v1 : Int32) : Nat → Int32 → Int32 → Option (Int32 × Int32)
  | 0, _, _ => none
  | n + 1, v2, v3 => gbX11_freeRows_5 F σxx v1 (gX11_freeRows_5 F σxx v1 n) v2 v3
set_option maxHeartbeats 4000000 in
set_option maxRecDepth 100000 in
theorem kX11_freeRows_5 {p : Program} {l : Launch} {e : Env} {s : State} {m : MethodId} {args : Array Value} {below : List Frame} {meth : Method} {c : Code} {A : Nat → Prop} {Q : State → Prop} {G : GP} (K : Cx p s m meth c G cX11_freeRows RX11 4 (some .int) args A) (F : Nat) (xx : Nat → Nat) (σxx : ST) (v1 : Int32) {z : Int32 × Int32} (kk : ∀ (H : Heap) (locs : List Loc) (ls : Array Slot), va_P G.1 vwCl (List.flatten [wX G xx σxx]) H → va_D A (List.flatten [wX G xx σxx]) → va_S A s.heap H locs → lv_has ls 4 [(0, .ref (xx 0)), (1, .int v1), (2, .int z.1), (3, .int z.2)] → W p l e (RM 1) s m args below meth c H locs 0 0 Q (F0 m 54 ls [])) :
    ∀ (n : Nat) (v2 : Int32) (v3 : Int32) (H : Heap) (locs : List Loc) (ls : Array Slot), va_P G.1 vwCl (List.flatten [wX G xx σxx]) H → va_D A (List.flatten [wX G xx σxx]) → va_S A s.heap H locs → lv_has ls 4 [(0, .ref (xx 0)), (1, .int v1), (2, .int v2), (3, .int v3)] → gX11_freeRows_5 F σxx v1 n v2 v3 = some z → W p l e (RM 1) s m args below meth c H locs 0 0 Q (F0 m 5 ls []) := by
  obtain ⟨hx, hb, hr, hml, hts, hown, hlocks, hA, hG⟩ := id K
  intro n
  induction n with
  | zero =>
    intro v2 v3 H locs ls hP hD hS hl h
    have h : none = some z := h
    cases h
  | succ n ih =>
    intro v2 v3 H locs ls hP hD hS hl h
    have h : gbX11_freeRows_5 F σxx v1 (gX11_freeRows_5 F σxx v1 n) v2 v3 = some z := h
    unfold gbX11_freeRows_5 at h
    refine lv_iload_n hx hb dX11_freeRows_5 rfl (lv_at hl 3 rfl) ?_
    refine lv_aload_n hx hb dX11_freeRows_6 rfl (lv_at hl 0 rfl) ?_
    refine va_get (D := G.1) (cl := vwCl) (tys := tysG G) (ci := 11) (v := .int (σxx.1 4)) (C := RX11) (T := TX11) (N := 37) hx hb hts iX11 hown hG.1 hP 0 rfl rfl 4 (Nat.le_of_ble_eq_true rfl) (hts _ tw_4_101) (fun _ h9 => h9) rfl dX11_freeRows_7 ?_
    refine lv_icmp_ge (tgt := 54) hx hb dX11_freeRows_10 (by decide) (fun c1 => ?_) (fun c1 => ?_)
    · have h := if_t c1 h
      cases h
      exact kk _ _ _ hP hD hS (lv_sub hl [0, 1, 2, 3] rfl)
    · have h := if_f c1 h
      refine lv_iload_n hx hb dX11_freeRows_13 rfl (lv_at hl 2 rfl) ?_
      refine lv_aload_n hx hb dX11_freeRows_14 rfl (lv_at hl 0 rfl) ?_
      refine va_get (D := G.1) (cl := vwCl) (tys := tysG G) (ci := 11) (v := .ref (xx 1)) (C := RX11) (T := TX11) (N := 37) hx hb hts iX11 hown hG.1 hP 0 rfl rfl 0 (Nat.le_of_ble_eq_true rfl) (hts _ tw_4_97) (fun _ h9 => h9) rfl dX11_freeRows_15 ?_
      refine lv_iconst (v := 3) hx hb dX11_freeRows_18 li_3 ?_
      refine lv_iload_n hx hb dX11_freeRows_19 rfl (lv_at hl 3 rfl) ?_
      refine lv_imul hx hb dX11_freeRows_20 ?_
      refine lv_iconst (v := 1) hx hb dX11_freeRows_21 li_1 ?_
      refine lv_iadd hx hb dX11_freeRows_22 ?_
      obtain ⟨ck2, h⟩ := ck h
      refine va_iald hx hb hG.1 hP 1 0 rfl rfl ck2 dX11_freeRows_23 ?_
      refine lv_iload_n hx hb dX11_freeRows_24 rfl (lv_at hl 1 rfl) ?_
      refine lv_icmp_ne (tgt := 45) hx hb dX11_freeRows_25 (by decide) (fun c3 => ?_) (fun c3 => ?_)
      · have h := if_f c3 h
        refine lv_iconst (v := -1) hx hb dX11_freeRows_45 li_m1 ?_
        refine lv_iand hx hb dX11_freeRows_46 ?_
        refine lv_istore_n (lv' := [(2, .int (v2 &&& (-1 : Int32))), (0, .ref (xx 0)), (1, .int v1), (3, .int v3)]) hx hb dX11_freeRows_47 rfl hl (Nat.le_of_ble_eq_true rfl) rfl (fun ls hl => ?_)
        refine lv_iinc (v := v3 + 1) (lv' := [(3, .int (v3 + 1)), (2, .int (v2 &&& (-1 : Int32))), (0, .ref (xx 0)), (1, .int v1)]) hx hb dX11_freeRows_48 hl (k := 3) rfl (by rw [li_1]) (Nat.le_of_ble_eq_true rfl) rfl (fun ls hl => ?_)
        refine lv_goto (tgt := 5) hx hb dX11_freeRows_51 (by decide) ?_
        exact ih (v2 &&& (-1 : Int32)) (v3 + 1) _ _ _ hP hD hS (lv_sub hl [2, 3, 1, 0] rfl) h
      · have h := if_t c3 h
        refine lv_iconst (v := 1) hx hb dX11_freeRows_28 li_1 ?_
        refine lv_aload_n hx hb dX11_freeRows_29 rfl (lv_at hl 0 rfl) ?_
        refine va_get (D := G.1) (cl := vwCl) (tys := tysG G) (ci := 11) (v := .ref (xx 1)) (C := RX11) (T := TX11) (N := 37) hx hb hts iX11 hown hG.1 hP 0 rfl rfl 0 (Nat.le_of_ble_eq_true rfl) (hts _ tw_4_97) (fun _ h9 => h9) rfl dX11_freeRows_30 ?_
        refine lv_iconst (v := 3) hx hb dX11_freeRows_33 li_3 ?_
        refine lv_iload_n hx hb dX11_freeRows_34 rfl (lv_at hl 3 rfl) ?_
        refine lv_imul hx hb dX11_freeRows_35 ?_
        refine lv_iconst (v := 2) hx hb dX11_freeRows_36 li_2 ?_
        refine lv_iadd hx hb dX11_freeRows_37 ?_
        obtain ⟨ck4, h⟩ := ck h
        refine va_iald hx hb hG.1 hP 1 0 rfl rfl ck4 dX11_freeRows_38 ?_
        refine lv_ishl hx hb dX11_freeRows_39 ?_
        refine lv_iconst (v := -1) hx hb dX11_freeRows_40 li_m1 ?_
        refine lv_ixor hx hb dX11_freeRows_41 ?_
        refine lv_goto (tgt := 46) hx hb dX11_freeRows_42 (by decide) ?_
        refine lv_iand hx hb dX11_freeRows_46 ?_
        obtain ⟨y5, e6, h⟩ := nm_ex h
        refine top_nm e6 ?_
        refine lv_istore_n (lv' := [(2, .int y5), (0, .ref (xx 0)), (1, .int v1), (3, .int v3)]) hx hb dX11_freeRows_47 rfl hl (Nat.le_of_ble_eq_true rfl) rfl (fun ls hl => ?_)
        refine lv_iinc (v := v3 + 1) (lv' := [(3, .int (v3 + 1)), (2, .int y5), (0, .ref (xx 0)), (1, .int v1)]) hx hb dX11_freeRows_48 hl (k := 3) rfl (by rw [li_1]) (Nat.le_of_ble_eq_true rfl) rfl (fun ls hl => ?_)
        refine lv_goto (tgt := 5) hx hb dX11_freeRows_51 (by decide) ?_
        exact ih y5 (v3 + 1) _ _ _ hP hD hS (lv_sub hl [2, 3, 1, 0] rfl) h
def fX11_freeRows (F : Nat) (σxx : ST) (x1 : Int32) : Option (Int32) :=
  (gX11_freeRows_5 F σxx x1 F (63 : Int32) (0 : Int32)).bind fun z7 =>
    some z7.1
theorem cdX11_freeRows : CallD yX11_freeRows 1 := by decide +kernel
set_option maxHeartbeats 4000000 in
set_option maxRecDepth 100000 in
theorem mX11_freeRows (l : Launch) (G : GP) (F : Nat) (xx : Nat → Nat) (σxx : ST) (x1 : Int32) {r : Int32} (h : fX11_freeRows F σxx x1 = some r) : CC l G yX11_freeRows cX11_freeRows 4 (some .int) 1 [.ref (xx 0), .int x1] (List.flatten [wX G xx σxx]) (List.flatten [wX G xx σxx]) (some (.int r)) := by
  refine CC.of (by decide) (Nat.le_of_ble_eq_true rfl) ?_
  intro p e s m below meth c A K hP hD hS ls hl
  obtain ⟨hx, hb, hr, hml, hts, hown, hlocks, hA, hG⟩ := id K
  have hl : lv_has ls 4 [(0, .ref (xx 0)), (1, .int x1)] := hl
  unfold fX11_freeRows at h
  refine lv_bipush (v := 63) hx hb dX11_freeRows_0 lb_63 ?_
  refine lv_istore_n (lv' := [(2, .int (63 : Int32)), (0, .ref (xx 0)), (1, .int x1)]) hx hb dX11_freeRows_2 rfl hl (Nat.le_of_ble_eq_true rfl) rfl (fun ls hl => ?_)
  refine lv_iconst (v := 0) hx hb dX11_freeRows_3 li_0 ?_
  refine lv_istore_n (lv' := [(3, .int (0 : Int32)), (2, .int (63 : Int32)), (0, .ref (xx 0)), (1, .int x1)]) hx hb dX11_freeRows_4 rfl hl (Nat.le_of_ble_eq_true rfl) rfl (fun ls hl => ?_)
  obtain ⟨z7, hz8, h⟩ := bd_ex h
  refine kX11_freeRows_5 K F xx σxx x1 (fun H locs ls hP hD hS hl => ?_) F (63 : Int32) (0 : Int32) _ _ _ hP hD hS (lv_sub hl [2, 3, 1, 0] rfl) hz8
  refine lv_iload_n hx hb dX11_freeRows_54 rfl (lv_at hl 2 rfl) ?_
  cases h
  exact rt_i K hP hD hS dX11_freeRows_55
def gbX11_readBodyPart_73 (F : Nat) (σxx : ST) (v1 : Int32) (rc : Int32 → Int32 → Option (Int32 × Int32)) (v2 : Int32) (v3 : Int32) : Option (Int32 × Int32) :=
  if (10 : Int32) ≤ v3 then
    some (v2, v3)
  else
    (fX11_freeRows F σxx v3).bind fun r16 =>
    if r16 = 0 then
      rc (v2 ||| (0 : Int32)) (v3 + 1)
    else
      rc (v2 ||| ((1 : Int32) <<< (v3 &&& 31))) (v3 + 1)
def gX11_readBodyPart_73 (F : Nat) (σxx : ST) (v1 : Int32) : Nat → Int32 → Int32 → Option (Int32 × Int32)
  | 0, _, _ => none
  | n + 1, v2, v3 => gbX11_readBodyPart_73 F σxx v1 (gX11_readBodyPart_73 F σxx v1 n) v2 v3
set_option maxHeartbeats 4000000 in
set_option maxRecDepth 100000 in
theorem kX11_readBodyPart_73 {p : Program} {l : Launch} {e : Env} {s : State} {m : MethodId} {args : Array Value} {below : List Frame} {meth : Method} {c : Code} {A : Nat → Prop} {Q : State → Prop} {G : GP} (K : Cx p s m meth c G cX11_readBodyPart RX11 5 none args A) (F : Nat) (xx : Nat → Nat) (σxx : ST) (v1 : Int32) {z : Int32 × Int32} (kk : ∀ (H : Heap) (locs : List Loc) (ls : Array Slot), va_P G.1 vwCl (List.flatten [wX G xx σxx]) H → va_D A (List.flatten [wX G xx σxx]) → va_S A s.heap H locs → lv_has ls 5 [(0, .ref (xx 0)), (1, .int v1), (2, .int z.1), (3, .int z.2)] → W p l e (RM 3) s m args below meth c H locs 0 0 Q (F0 m 103 ls [])) :
    ∀ (n : Nat) (v2 : Int32) (v3 : Int32) (H : Heap) (locs : List Loc) (ls : Array Slot), va_P G.1 vwCl (List.flatten [wX G xx σxx]) H → va_D A (List.flatten [wX G xx σxx]) → va_S A s.heap H locs → lv_has ls 5 [(0, .ref (xx 0)), (1, .int v1), (2, .int v2), (3, .int v3)] → gX11_readBodyPart_73 F σxx v1 n v2 v3 = some z → W p l e (RM 3) s m args below meth c H locs 0 0 Q (F0 m 73 ls []) := by
  obtain ⟨hx, hb, hr, hml, hts, hown, hlocks, hA, hG⟩ := id K
  intro n
  induction n with
  | zero =>
    intro v2 v3 H locs ls hP hD hS hl h
    have h : none = some z := h
    cases h
  | succ n ih =>
    intro v2 v3 H locs ls hP hD hS hl h
    have h : gbX11_readBodyPart_73 F σxx v1 (gX11_readBodyPart_73 F σxx v1 n) v2 v3 = some z := h
    unfold gbX11_readBodyPart_73 at h
    refine lv_iload_n hx hb dX11_readBodyPart_73 rfl (lv_at hl 3 rfl) ?_
    refine lv_bipush (v := 10) hx hb dX11_readBodyPart_74 lb_10 ?_
    refine lv_icmp_ge (tgt := 103) hx hb dX11_readBodyPart_76 (by decide) (fun c15 => ?_) (fun c15 => ?_)
    · have h := if_t c15 h
      cases h
      exact kk _ _ _ hP hD hS (lv_sub hl [0, 1, 2, 3] rfl)
    · have h := if_f c15 h
      refine lv_iload_n hx hb dX11_readBodyPart_79 rfl (lv_at hl 2 rfl) ?_
      refine lv_aload_n hx hb dX11_readBodyPart_80 rfl (lv_at hl 0 rfl) ?_
      refine lv_iload_n hx hb dX11_readBodyPart_81 rfl (lv_at hl 3 rfl) ?_
      obtain ⟨r16, hc17, h⟩ := bd_ex h
      refine sl_V (q0 := 0) (ci := 11) (C := RX11) K (mX11_freeRows l G F xx σxx v3 hc17) tw_5_9 tw_1_12 tw_5_8 tw_0_5 tw_5_6 cdX11_freeRows ⟨Nat.le_of_ble_eq_true rfl, Nat.le_of_ble_eq_true rfl⟩ hP hD hS [0] rfl rfl rfl rfl rfl rfl rfl hl.1 (Nat.le_of_ble_eq_true rfl) ⟨Nat.zero_le _, Nat.zero_le _⟩ dX11_readBodyPart_82 (fun H locs hP hD hS => ?_)
      have hP : va_P G.1 vwCl (List.flatten [wX G xx σxx]) H := hP
      have hD : va_D A (List.flatten [wX G xx σxx]) := hD
      refine lv_if_eq (tgt := 94) hx hb dX11_readBodyPart_85 (by decide) (fun c18 => ?_) (fun c18 => ?_)
      · have h := if_t c18 h
        refine lv_iconst (v := 0) hx hb dX11_readBodyPart_94 li_0 ?_
        refine lv_ior hx hb dX11_readBodyPart_95 ?_
        refine lv_istore_n (lv' := [(2, .int (v2 ||| (0 : Int32))), (0, .ref (xx 0)), (1, .int v1), (3, .int v3)]) hx hb dX11_readBodyPart_96 rfl hl (Nat.le_of_ble_eq_true rfl) rfl (fun ls hl => ?_)
        refine lv_iinc (v := v3 + 1) (lv' := [(3, .int (v3 + 1)), (2, .int (v2 ||| (0 : Int32))), (0, .ref (xx 0)), (1, .int v1)]) hx hb dX11_readBodyPart_97 hl (k := 3) rfl (by rw [li_1]) (Nat.le_of_ble_eq_true rfl) rfl (fun ls hl => ?_)
        refine lv_goto (tgt := 73) hx hb dX11_readBodyPart_100 (by decide) ?_
        exact ih (v2 ||| (0 : Int32)) (v3 + 1) _ _ _ hP hD hS (lv_sub hl [2, 3, 1, 0] rfl) h
      · have h := if_f c18 h
        refine lv_iconst (v := 1) hx hb dX11_readBodyPart_88 li_1 ?_
        refine lv_iload_n hx hb dX11_readBodyPart_89 rfl (lv_at hl 3 rfl) ?_
        refine lv_ishl hx hb dX11_readBodyPart_90 ?_
        refine lv_goto (tgt := 95) hx hb dX11_readBodyPart_91 (by decide) ?_
        refine lv_ior hx hb dX11_readBodyPart_95 ?_
        refine lv_istore_n (lv' := [(2, .int (v2 ||| ((1 : Int32) <<< (v3 &&& 31)))), (0, .ref (xx 0)), (1, .int v1), (3, .int v3)]) hx hb dX11_readBodyPart_96 rfl hl (Nat.le_of_ble_eq_true rfl) rfl (fun ls hl => ?_)
        refine lv_iinc (v := v3 + 1) (lv' := [(3, .int (v3 + 1)), (2, .int (v2 ||| ((1 : Int32) <<< (v3 &&& 31)))), (0, .ref (xx 0)), (1, .int v1)]) hx hb dX11_readBodyPart_97 hl (k := 3) rfl (by rw [li_1]) (Nat.le_of_ble_eq_true rfl) rfl (fun ls hl => ?_)
        refine lv_goto (tgt := 73) hx hb dX11_readBodyPart_100 (by decide) ?_
        exact ih (v2 ||| ((1 : Int32) <<< (v3 &&& 31))) (v3 + 1) _ _ _ hP hD hS (lv_sub hl [2, 3, 1, 0] rfl) h
def fX11_readBodyPart (F : Nat) (σxx : ST)  : Option (ST) :=
  nm (sI σxx 17 ((σxx.1 17) + (1 : Int32))) fun (s1 : ST) =>
  if (s1.1 18) = (-9 : Int32) then
    if (s1.1 16) ≤ (s1.1 17) then
      (fX11_fail F s1).bind fun r7 =>
      some r7
    else
      if (s1.1 17) < 0 ∨ 92 ≤ (s1.1 17).toNatClampNeg then none else
      (fX11_kindOf F (s1.2.1 15 (s1.1 17).toNatClampNeg)).bind fun r10 =>
      if r10 = (-9 : Int32) then
        (fX11_fail F s1).bind fun r38 =>
        some r38
      else
        nm (sI s1 17 ((s1.1 17) + (1 : Int32))) fun (s13 : ST) =>
        (gX11_readBodyPart_73 F s13 r10 F (0 : Int32) (0 : Int32)).bind fun z19 =>
          (fX11_sign F s13 z19.1).bind fun r21 =>
          (fX11_freeRows F r21.2 r21.1).bind fun r23 =>
          (fX11_sign F r21.2 r23).bind fun r25 =>
          if ((3 : Int32) * (r25.2.1 4)) < 0 ∨ 24 ≤ ((3 : Int32) * (r25.2.1 4)).toNatClampNeg then none else
          nm (sA r25.2 0 ((3 : Int32) * (r25.2.1 4)).toNatClampNeg r10) fun (s28 : ST) =>
          if (((3 : Int32) * (s28.1 4)) + (1 : Int32)) < 0 ∨ 24 ≤ (((3 : Int32) * (s28.1 4)) + (1 : Int32)).toNatClampNeg then none else
          nm (sA s28 0 (((3 : Int32) * (s28.1 4)) + (1 : Int32)).toNatClampNeg r21.1) fun (s31 : ST) =>
          if (((3 : Int32) * (s31.1 4)) + (2 : Int32)) < 0 ∨ 24 ≤ (((3 : Int32) * (s31.1 4)) + (2 : Int32)).toNatClampNeg then none else
          nm (sA s31 0 (((3 : Int32) * (s31.1 4)) + (2 : Int32)).toNatClampNeg r25.1) fun (s34 : ST) =>
          nm (sI s34 4 ((s34.1 4) + (1 : Int32))) fun (s36 : ST) =>
          some s36
  else
    (fX11_fail F s1).bind fun r4 =>
    some r4
theorem cdX11_readBodyPart : CallD yX11_readBodyPart 0 := by decide +kernel
set_option maxHeartbeats 4000000 in
set_option maxRecDepth 100000 in
theorem mX11_readBodyPart (l : Launch) (G : GP) (F : Nat) (xx : Nat → Nat) (σxx : ST)  {r : ST} (h : fX11_readBodyPart F σxx  = some r) : CC l G yX11_readBodyPart cX11_readBodyPart 5 none 3 [.ref (xx 0)] (List.flatten [wX G xx σxx]) (List.flatten [wX G xx r]) none := by
  refine CC.of (by decide) (Nat.le_of_ble_eq_true rfl) ?_
  intro p e s m below meth c A K hP hD hS ls hl
  obtain ⟨hx, hb, hr, hml, hts, hown, hlocks, hA, hG⟩ := id K
  have hl : lv_has ls 5 [(0, .ref (xx 0))] := hl
  unfold fX11_readBodyPart at h
  refine lv_aload_n hx hb dX11_readBodyPart_0 rfl (lv_at hl 0 rfl) ?_
  refine lv_dup hx hb dX11_readBodyPart_1 rfl ?_
  refine va_get (D := G.1) (cl := vwCl) (tys := tysG G) (ci := 11) (v := .int (σxx.1 17)) (C := RX11) (T := TX11) (N := 37) hx hb hts iX11 hown hG.1 hP 0 rfl rfl 17 (Nat.le_of_ble_eq_true rfl) (hts _ tw_4_114) (fun _ h9 => h9) rfl dX11_readBodyPart_2 ?_
  refine lv_iconst (v := 1) hx hb dX11_readBodyPart_5 li_1 ?_
  refine lv_iadd hx hb dX11_readBodyPart_6 ?_
  obtain ⟨s1, e2, h⟩ := nm_ex h
  refine va_put (D := G.1) (cl := vwCl) (tys := tysG G) (ci := 11) (v := .int ((σxx.1 17) + (1 : Int32))) (ty := .int) (C := RX11) (T := TX11) (N := 37) hx hb hts iX11 tyX11 tyX11_ok nmX11 hown hG.1 hP hD hS 0 rfl rfl 17 (Nat.le_of_ble_eq_true rfl) (hts _ tw_4_114) (fun _ h9 => h9) rfl (by decide +kernel) rfl rfl (Nat.le_of_ble_eq_true rfl) dX11_readBodyPart_7 (fun H locs hP hD hS => ?_)
  have hP : va_P G.1 vwCl (List.flatten [wX G xx s1]) H := by rw [e2]; exact hP
  have hD : va_D A (List.flatten [wX G xx s1]) := by rw [e2]; exact hD
  refine lv_aload_n hx hb dX11_readBodyPart_10 rfl (lv_at hl 0 rfl) ?_
  refine va_get (D := G.1) (cl := vwCl) (tys := tysG G) (ci := 11) (v := .int (s1.1 18)) (C := RX11) (T := TX11) (N := 37) hx hb hts iX11 hown hG.1 hP 0 rfl rfl 18 (Nat.le_of_ble_eq_true rfl) (hts _ tw_4_115) (fun _ h9 => h9) rfl dX11_readBodyPart_11 ?_
  refine lv_bipush (v := -9) hx hb dX11_readBodyPart_14 lb_m9 ?_
  refine lv_icmp_ne (tgt := 45) hx hb dX11_readBodyPart_16 (by decide) (fun c3 => ?_) (fun c3 => ?_)
  · have h := if_f c3 h
    refine lv_bipush (v := -9) hx hb dX11_readBodyPart_45 lb_m9 ?_
    refine lv_istore_n (lv' := [(1, .int (-9 : Int32)), (0, .ref (xx 0))]) hx hb dX11_readBodyPart_47 rfl hl (Nat.le_of_ble_eq_true rfl) rfl (fun ls hl => ?_)
    refine lv_iload_n hx hb dX11_readBodyPart_48 rfl (lv_at hl 0 rfl) ?_
    refine lv_bipush (v := -9) hx hb dX11_readBodyPart_49 lb_m9 ?_
    refine lv_icmp_ne (tgt := 59) hx hb dX11_readBodyPart_51 (by decide) (fun c9 => absurd c9 (by decide)) (fun c9 => ?_)
    refine lv_aload_n hx hb dX11_readBodyPart_54 rfl (lv_at hl 1 rfl) ?_
    obtain ⟨r4, hc5, h⟩ := bd_ex h
    refine sl_V (q0 := 0) (ci := 11) (C := RX11) K (mX11_fail l G F xx s1 hc5) tw_5_5 tw_1_12 tw_5_4 tw_0_4 tw_5_2 cdX11_fail ⟨Nat.le_of_ble_eq_true rfl, Nat.le_of_ble_eq_true rfl⟩ hP hD hS [0] rfl rfl rfl rfl rfl rfl rfl hl.1 (Nat.le_of_ble_eq_true rfl) ⟨Nat.zero_le _, Nat.zero_le _⟩ dX11_readBodyPart_55 (fun H locs hP hD hS => ?_)
    have hP : va_P G.1 vwCl (List.flatten [wX G xx r4]) H := hP
    have hD : va_D A (List.flatten [wX G xx r4]) := hD
    cases h
    exact rt_v K hP hD hS dX11_readBodyPart_58
  · have h := if_t c3 h
    refine lv_aload_n hx hb dX11_readBodyPart_19 rfl (lv_at hl 0 rfl) ?_
    refine va_get (D := G.1) (cl := vwCl) (tys := tysG G) (ci := 11) (v := .int (s1.1 17)) (C := RX11) (T := TX11) (N := 37) hx hb hts iX11 hown hG.1 hP 0 rfl rfl 17 (Nat.le_of_ble_eq_true rfl) (hts _ tw_4_114) (fun _ h9 => h9) rfl dX11_readBodyPart_20 ?_
    refine lv_aload_n hx hb dX11_readBodyPart_23 rfl (lv_at hl 0 rfl) ?_
    refine va_get (D := G.1) (cl := vwCl) (tys := tysG G) (ci := 11) (v := .int (s1.1 16)) (C := RX11) (T := TX11) (N := 37) hx hb hts iX11 hown hG.1 hP 0 rfl rfl 16 (Nat.le_of_ble_eq_true rfl) (hts _ tw_4_113) (fun _ h9 => h9) rfl dX11_readBodyPart_24 ?_
    refine lv_icmp_ge (tgt := 45) hx hb dX11_readBodyPart_27 (by decide) (fun c6 => ?_) (fun c6 => ?_)
    · have h := if_t c6 h
      refine lv_bipush (v := -9) hx hb dX11_readBodyPart_45 lb_m9 ?_
      refine lv_istore_n (lv' := [(1, .int (-9 : Int32)), (0, .ref (xx 0))]) hx hb dX11_readBodyPart_47 rfl hl (Nat.le_of_ble_eq_true rfl) rfl (fun ls hl => ?_)
      refine lv_iload_n hx hb dX11_readBodyPart_48 rfl (lv_at hl 0 rfl) ?_
      refine lv_bipush (v := -9) hx hb dX11_readBodyPart_49 lb_m9 ?_
      refine lv_icmp_ne (tgt := 59) hx hb dX11_readBodyPart_51 (by decide) (fun c9 => absurd c9 (by decide)) (fun c9 => ?_)
      refine lv_aload_n hx hb dX11_readBodyPart_54 rfl (lv_at hl 1 rfl) ?_
      obtain ⟨r7, hc8, h⟩ := bd_ex h
      refine sl_V (q0 := 0) (ci := 11) (C := RX11) K (mX11_fail l G F xx s1 hc8) tw_5_5 tw_1_12 tw_5_4 tw_0_4 tw_5_2 cdX11_fail ⟨Nat.le_of_ble_eq_true rfl, Nat.le_of_ble_eq_true rfl⟩ hP hD hS [0] rfl rfl rfl rfl rfl rfl rfl hl.1 (Nat.le_of_ble_eq_true rfl) ⟨Nat.zero_le _, Nat.zero_le _⟩ dX11_readBodyPart_55 (fun H locs hP hD hS => ?_)
      have hP : va_P G.1 vwCl (List.flatten [wX G xx r7]) H := hP
      have hD : va_D A (List.flatten [wX G xx r7]) := hD
      cases h
      exact rt_v K hP hD hS dX11_readBodyPart_58
    · have h := if_f c6 h
      refine lv_aload_n hx hb dX11_readBodyPart_30 rfl (lv_at hl 0 rfl) ?_
      refine va_get (D := G.1) (cl := vwCl) (tys := tysG G) (ci := 11) (v := .ref (xx 16)) (C := RX11) (T := TX11) (N := 37) hx hb hts iX11 hown hG.1 hP 0 rfl rfl 15 (Nat.le_of_ble_eq_true rfl) (hts _ tw_4_112) (fun _ h9 => h9) rfl dX11_readBodyPart_31 ?_
      refine lv_aload_n hx hb dX11_readBodyPart_34 rfl (lv_at hl 0 rfl) ?_
      refine va_get (D := G.1) (cl := vwCl) (tys := tysG G) (ci := 11) (v := .int (s1.1 17)) (C := RX11) (T := TX11) (N := 37) hx hb hts iX11 hown hG.1 hP 0 rfl rfl 17 (Nat.le_of_ble_eq_true rfl) (hts _ tw_4_114) (fun _ h9 => h9) rfl dX11_readBodyPart_35 ?_
      obtain ⟨ck9, h⟩ := ck h
      refine va_iald hx hb hG.1 hP 9 0 rfl rfl ck9 dX11_readBodyPart_38 ?_
      obtain ⟨r10, hc11, h⟩ := bd_ex h
      refine sl_S K (mX11_kindOf l G F (s1.2.1 15 (s1.1 17).toNatClampNeg) hc11) tw_5_1 tw_1_12 tw_5_0 tw_4_239 cdX11_kindOf ⟨Nat.le_of_ble_eq_true rfl, Nat.le_of_ble_eq_true rfl⟩ hP hD hS [] rfl rfl rfl rfl hl.1 (Nat.le_of_ble_eq_true rfl) ⟨Nat.zero_le _, Nat.zero_le _⟩ dX11_readBodyPart_39 (fun H locs hP hD hS => ?_)
      have hP : va_P G.1 vwCl (List.flatten [wX G xx s1]) H := hP
      have hD : va_D A (List.flatten [wX G xx s1]) := hD
      refine lv_goto (tgt := 47) hx hb dX11_readBodyPart_42 (by decide) ?_
      refine lv_istore_n (lv' := [(1, .int r10), (0, .ref (xx 0))]) hx hb dX11_readBodyPart_47 rfl hl (Nat.le_of_ble_eq_true rfl) rfl (fun ls hl => ?_)
      refine lv_iload_n hx hb dX11_readBodyPart_48 rfl (lv_at hl 0 rfl) ?_
      refine lv_bipush (v := -9) hx hb dX11_readBodyPart_49 lb_m9 ?_
      refine lv_icmp_ne (tgt := 59) hx hb dX11_readBodyPart_51 (by decide) (fun c12 => ?_) (fun c12 => ?_)
      · have h := if_f c12 h
        refine lv_aload_n hx hb dX11_readBodyPart_59 rfl (lv_at hl 1 rfl) ?_
        refine lv_dup hx hb dX11_readBodyPart_60 rfl ?_
        refine va_get (D := G.1) (cl := vwCl) (tys := tysG G) (ci := 11) (v := .int (s1.1 17)) (C := RX11) (T := TX11) (N := 37) hx hb hts iX11 hown hG.1 hP 0 rfl rfl 17 (Nat.le_of_ble_eq_true rfl) (hts _ tw_4_114) (fun _ h9 => h9) rfl dX11_readBodyPart_61 ?_
        refine lv_iconst (v := 1) hx hb dX11_readBodyPart_64 li_1 ?_
        refine lv_iadd hx hb dX11_readBodyPart_65 ?_
        obtain ⟨s13, e14, h⟩ := nm_ex h
        refine va_put (D := G.1) (cl := vwCl) (tys := tysG G) (ci := 11) (v := .int ((s1.1 17) + (1 : Int32))) (ty := .int) (C := RX11) (T := TX11) (N := 37) hx hb hts iX11 tyX11 tyX11_ok nmX11 hown hG.1 hP hD hS 0 rfl rfl 17 (Nat.le_of_ble_eq_true rfl) (hts _ tw_4_114) (fun _ h9 => h9) rfl (by decide +kernel) rfl rfl (Nat.le_of_ble_eq_true rfl) dX11_readBodyPart_66 (fun H locs hP hD hS => ?_)
        have hP : va_P G.1 vwCl (List.flatten [wX G xx s13]) H := by rw [e14]; exact hP
        have hD : va_D A (List.flatten [wX G xx s13]) := by rw [e14]; exact hD
        refine lv_iconst (v := 0) hx hb dX11_readBodyPart_69 li_0 ?_
        refine lv_istore_n (lv' := [(2, .int (0 : Int32)), (1, .int r10), (0, .ref (xx 0))]) hx hb dX11_readBodyPart_70 rfl hl (Nat.le_of_ble_eq_true rfl) rfl (fun ls hl => ?_)
        refine lv_iconst (v := 0) hx hb dX11_readBodyPart_71 li_0 ?_
        refine lv_istore_n (lv' := [(3, .int (0 : Int32)), (2, .int (0 : Int32)), (1, .int r10), (0, .ref (xx 0))]) hx hb dX11_readBodyPart_72 rfl hl (Nat.le_of_ble_eq_true rfl) rfl (fun ls hl => ?_)
        obtain ⟨z19, hz20, h⟩ := bd_ex h
        refine kX11_readBodyPart_73 K F xx s13 r10 (fun H locs ls hP hD hS hl => ?_) F (0 : Int32) (0 : Int32) _ _ _ hP hD hS (lv_sub hl [3, 2, 1, 0] rfl) hz20
        refine lv_aload_n hx hb dX11_readBodyPart_103 rfl (lv_at hl 0 rfl) ?_
        refine lv_iload_n hx hb dX11_readBodyPart_104 rfl (lv_at hl 2 rfl) ?_
        obtain ⟨r21, hc22, h⟩ := bd_ex h
        refine sl_V (q0 := 0) (ci := 11) (C := RX11) K (mX11_sign l G F xx s13 z19.1 hc22) tw_5_13 tw_1_12 tw_5_12 tw_0_6 tw_5_10 cdX11_sign ⟨Nat.le_of_ble_eq_true rfl, Nat.le_of_ble_eq_true rfl⟩ hP hD hS [0] rfl rfl rfl rfl rfl rfl rfl hl.1 (Nat.le_of_ble_eq_true rfl) ⟨Nat.zero_le _, Nat.zero_le _⟩ dX11_readBodyPart_105 (fun H locs hP hD hS => ?_)
        have hP : va_P G.1 vwCl (List.flatten [wX G xx r21.2]) H := hP
        have hD : va_D A (List.flatten [wX G xx r21.2]) := hD
        refine lv_istore_n (lv' := [(3, .int r21.1), (0, .ref (xx 0)), (1, .int r10), (2, .int z19.1)]) hx hb dX11_readBodyPart_108 rfl hl (Nat.le_of_ble_eq_true rfl) rfl (fun ls hl => ?_)
        refine lv_aload_n hx hb dX11_readBodyPart_109 rfl (lv_at hl 1 rfl) ?_
        refine lv_aload_n hx hb dX11_readBodyPart_110 rfl (lv_at hl 1 rfl) ?_
        refine lv_iload_n hx hb dX11_readBodyPart_111 rfl (lv_at hl 0 rfl) ?_
        obtain ⟨r23, hc24, h⟩ := bd_ex h
        refine sl_V (q0 := 0) (ci := 11) (C := RX11) K (mX11_freeRows l G F xx r21.2 r21.1 hc24) tw_5_9 tw_1_12 tw_5_8 tw_0_5 tw_5_6 cdX11_freeRows ⟨Nat.le_of_ble_eq_true rfl, Nat.le_of_ble_eq_true rfl⟩ hP hD hS [0] rfl rfl rfl rfl rfl rfl rfl hl.1 (Nat.le_of_ble_eq_true rfl) ⟨Nat.zero_le _, Nat.zero_le _⟩ dX11_readBodyPart_112 (fun H locs hP hD hS => ?_)
        have hP : va_P G.1 vwCl (List.flatten [wX G xx r21.2]) H := hP
        have hD : va_D A (List.flatten [wX G xx r21.2]) := hD
        obtain ⟨r25, hc26, h⟩ := bd_ex h
        refine sl_V (q0 := 0) (ci := 11) (C := RX11) K (mX11_sign l G F xx r21.2 r23 hc26) tw_5_13 tw_1_12 tw_5_12 tw_0_6 tw_5_10 cdX11_sign ⟨Nat.le_of_ble_eq_true rfl, Nat.le_of_ble_eq_true rfl⟩ hP hD hS [0] rfl rfl rfl rfl rfl rfl rfl hl.1 (Nat.le_of_ble_eq_true rfl) ⟨Nat.zero_le _, Nat.zero_le _⟩ dX11_readBodyPart_115 (fun H locs hP hD hS => ?_)
        have hP : va_P G.1 vwCl (List.flatten [wX G xx r25.2]) H := hP
        have hD : va_D A (List.flatten [wX G xx r25.2]) := hD
        refine lv_istore (lv' := [(4, .int r25.1), (3, .int r21.1), (0, .ref (xx 0)), (1, .int r10), (2, .int z19.1)]) hx hb dX11_readBodyPart_118 hl (Nat.le_of_ble_eq_true rfl) rfl (fun ls hl => ?_)
        refine lv_aload_n hx hb dX11_readBodyPart_120 rfl (lv_at hl 2 rfl) ?_
        refine va_get (D := G.1) (cl := vwCl) (tys := tysG G) (ci := 11) (v := .ref (xx 1)) (C := RX11) (T := TX11) (N := 37) hx hb hts iX11 hown hG.1 hP 0 rfl rfl 0 (Nat.le_of_ble_eq_true rfl) (hts _ tw_4_97) (fun _ h9 => h9) rfl dX11_readBodyPart_121 ?_
        refine lv_iconst (v := 3) hx hb dX11_readBodyPart_124 li_3 ?_
        refine lv_aload_n hx hb dX11_readBodyPart_125 rfl (lv_at hl 2 rfl) ?_
        refine va_get (D := G.1) (cl := vwCl) (tys := tysG G) (ci := 11) (v := .int (r25.2.1 4)) (C := RX11) (T := TX11) (N := 37) hx hb hts iX11 hown hG.1 hP 0 rfl rfl 4 (Nat.le_of_ble_eq_true rfl) (hts _ tw_4_101) (fun _ h9 => h9) rfl dX11_readBodyPart_126 ?_
        refine lv_imul hx hb dX11_readBodyPart_129 ?_
        refine lv_iload_n hx hb dX11_readBodyPart_130 rfl (lv_at hl 3 rfl) ?_
        obtain ⟨ck27, h⟩ := ck h
        obtain ⟨s28, e29, h⟩ := nm_ex h
        refine va_iast hx hb hG.1 hP hD hS 1 0 rfl rfl ck27 dX11_readBodyPart_131 (fun H locs hP hD hS => ?_)
        have hP : va_P G.1 vwCl (List.flatten [wX G xx s28]) H := by rw [e29]; exact hP
        have hD : va_D A (List.flatten [wX G xx s28]) := by rw [e29]; exact hD
        refine lv_aload_n hx hb dX11_readBodyPart_132 rfl (lv_at hl 2 rfl) ?_
        refine va_get (D := G.1) (cl := vwCl) (tys := tysG G) (ci := 11) (v := .ref (xx 1)) (C := RX11) (T := TX11) (N := 37) hx hb hts iX11 hown hG.1 hP 0 rfl rfl 0 (Nat.le_of_ble_eq_true rfl) (hts _ tw_4_97) (fun _ h9 => h9) rfl dX11_readBodyPart_133 ?_
        refine lv_iconst (v := 3) hx hb dX11_readBodyPart_136 li_3 ?_
        refine lv_aload_n hx hb dX11_readBodyPart_137 rfl (lv_at hl 2 rfl) ?_
        refine va_get (D := G.1) (cl := vwCl) (tys := tysG G) (ci := 11) (v := .int (s28.1 4)) (C := RX11) (T := TX11) (N := 37) hx hb hts iX11 hown hG.1 hP 0 rfl rfl 4 (Nat.le_of_ble_eq_true rfl) (hts _ tw_4_101) (fun _ h9 => h9) rfl dX11_readBodyPart_138 ?_
        refine lv_imul hx hb dX11_readBodyPart_141 ?_
        refine lv_iconst (v := 1) hx hb dX11_readBodyPart_142 li_1 ?_
        refine lv_iadd hx hb dX11_readBodyPart_143 ?_
        refine lv_iload_n hx hb dX11_readBodyPart_144 rfl (lv_at hl 1 rfl) ?_
        obtain ⟨ck30, h⟩ := ck h
        obtain ⟨s31, e32, h⟩ := nm_ex h
        refine va_iast hx hb hG.1 hP hD hS 1 0 rfl rfl ck30 dX11_readBodyPart_145 (fun H locs hP hD hS => ?_)
        have hP : va_P G.1 vwCl (List.flatten [wX G xx s31]) H := by rw [e32]; exact hP
        have hD : va_D A (List.flatten [wX G xx s31]) := by rw [e32]; exact hD
        refine lv_aload_n hx hb dX11_readBodyPart_146 rfl (lv_at hl 2 rfl) ?_
        refine va_get (D := G.1) (cl := vwCl) (tys := tysG G) (ci := 11) (v := .ref (xx 1)) (C := RX11) (T := TX11) (N := 37) hx hb hts iX11 hown hG.1 hP 0 rfl rfl 0 (Nat.le_of_ble_eq_true rfl) (hts _ tw_4_97) (fun _ h9 => h9) rfl dX11_readBodyPart_147 ?_
        refine lv_iconst (v := 3) hx hb dX11_readBodyPart_150 li_3 ?_
        refine lv_aload_n hx hb dX11_readBodyPart_151 rfl (lv_at hl 2 rfl) ?_
        refine va_get (D := G.1) (cl := vwCl) (tys := tysG G) (ci := 11) (v := .int (s31.1 4)) (C := RX11) (T := TX11) (N := 37) hx hb hts iX11 hown hG.1 hP 0 rfl rfl 4 (Nat.le_of_ble_eq_true rfl) (hts _ tw_4_101) (fun _ h9 => h9) rfl dX11_readBodyPart_152 ?_
        refine lv_imul hx hb dX11_readBodyPart_155 ?_
        refine lv_iconst (v := 2) hx hb dX11_readBodyPart_156 li_2 ?_
        refine lv_iadd hx hb dX11_readBodyPart_157 ?_
        refine lv_iload hx hb dX11_readBodyPart_158 (lv_at hl 0 rfl) ?_
        obtain ⟨ck33, h⟩ := ck h
        obtain ⟨s34, e35, h⟩ := nm_ex h
        refine va_iast hx hb hG.1 hP hD hS 1 0 rfl rfl ck33 dX11_readBodyPart_160 (fun H locs hP hD hS => ?_)
        have hP : va_P G.1 vwCl (List.flatten [wX G xx s34]) H := by rw [e35]; exact hP
        have hD : va_D A (List.flatten [wX G xx s34]) := by rw [e35]; exact hD
        refine lv_aload_n hx hb dX11_readBodyPart_161 rfl (lv_at hl 2 rfl) ?_
        refine lv_dup hx hb dX11_readBodyPart_162 rfl ?_
        refine va_get (D := G.1) (cl := vwCl) (tys := tysG G) (ci := 11) (v := .int (s34.1 4)) (C := RX11) (T := TX11) (N := 37) hx hb hts iX11 hown hG.1 hP 0 rfl rfl 4 (Nat.le_of_ble_eq_true rfl) (hts _ tw_4_101) (fun _ h9 => h9) rfl dX11_readBodyPart_163 ?_
        refine lv_iconst (v := 1) hx hb dX11_readBodyPart_166 li_1 ?_
        refine lv_iadd hx hb dX11_readBodyPart_167 ?_
        obtain ⟨s36, e37, h⟩ := nm_ex h
        refine va_put (D := G.1) (cl := vwCl) (tys := tysG G) (ci := 11) (v := .int ((s34.1 4) + (1 : Int32))) (ty := .int) (C := RX11) (T := TX11) (N := 37) hx hb hts iX11 tyX11 tyX11_ok nmX11 hown hG.1 hP hD hS 0 rfl rfl 4 (Nat.le_of_ble_eq_true rfl) (hts _ tw_4_101) (fun _ h9 => h9) rfl (by decide +kernel) rfl rfl (Nat.le_of_ble_eq_true rfl) dX11_readBodyPart_168 (fun H locs hP hD hS => ?_)
        have hP : va_P G.1 vwCl (List.flatten [wX G xx s36]) H := by rw [e37]; exact hP
        have hD : va_D A (List.flatten [wX G xx s36]) := by rw [e37]; exact hD
        cases h
        exact rt_v K hP hD hS dX11_readBodyPart_171
      · have h := if_t c12 h
        refine lv_aload_n hx hb dX11_readBodyPart_54 rfl (lv_at hl 1 rfl) ?_
        obtain ⟨r38, hc39, h⟩ := bd_ex h
        refine sl_V (q0 := 0) (ci := 11) (C := RX11) K (mX11_fail l G F xx s1 hc39) tw_5_5 tw_1_12 tw_5_4 tw_0_4 tw_5_2 cdX11_fail ⟨Nat.le_of_ble_eq_true rfl, Nat.le_of_ble_eq_true rfl⟩ hP hD hS [0] rfl rfl rfl rfl rfl rfl rfl hl.1 (Nat.le_of_ble_eq_true rfl) ⟨Nat.zero_le _, Nat.zero_le _⟩ dX11_readBodyPart_55 (fun H locs hP hD hS => ?_)
        have hP : va_P G.1 vwCl (List.flatten [wX G xx r38]) H := hP
        have hD : va_D A (List.flatten [wX G xx r38]) := hD
        cases h
        exact rt_v K hP hD hS dX11_readBodyPart_58
def gbX11_untold_4 (F : Nat) (σxx : ST) (rc : Int32 → Int32 → Option (Int32 × Int32)) (v1 : Int32) (v2 : Int32) : Option (Int32 × Int32) :=
  if (6 : Int32) ≤ v2 then
    some (v1, v2)
  else
    if v2 < 0 ∨ 6 ≤ v2.toNatClampNeg then none else
    if (σxx.2.1 3 v2.toNatClampNeg) = (-9 : Int32) then
      rc (v1 ||| ((1 : Int32) <<< (v2 &&& 31))) (v2 + 1)
    else
      rc (v1 ||| (0 : Int32)) (v2 + 1)
def gX11_untold_4 (F : Nat) (σxx : ST) : Nat → Int32 → Int32 → Option (Int32 × Int32)
  | 0, _, _ => none
  | n + 1, v1, v2 => gbX11_untold_4 F σxx (gX11_untold_4 F σxx n) v1 v2
set_option maxHeartbeats 4000000 in
set_option maxRecDepth 100000 in
theorem kX11_untold_4 {p : Program} {l : Launch} {e : Env} {s : State} {m : MethodId} {args : Array Value} {below : List Frame} {meth : Method} {c : Code} {A : Nat → Prop} {Q : State → Prop} {G : GP} (K : Cx p s m meth c G cX11_untold RX11 3 (some .int) args A) (F : Nat) (xx : Nat → Nat) (σxx : ST) {z : Int32 × Int32} (kk : ∀ (H : Heap) (locs : List Loc) (ls : Array Slot), va_P G.1 vwCl (List.flatten [wX G xx σxx]) H → va_D A (List.flatten [wX G xx σxx]) → va_S A s.heap H locs → lv_has ls 3 [(0, .ref (xx 0)), (1, .int z.1), (2, .int z.2)] → W p l e (RM 1) s m args below meth c H locs 0 0 Q (F0 m 37 ls [])) :
    ∀ (n : Nat) (v1 : Int32) (v2 : Int32) (H : Heap) (locs : List Loc) (ls : Array Slot), va_P G.1 vwCl (List.flatten [wX G xx σxx]) H → va_D A (List.flatten [wX G xx σxx]) → va_S A s.heap H locs → lv_has ls 3 [(0, .ref (xx 0)), (1, .int v1), (2, .int v2)] → gX11_untold_4 F σxx n v1 v2 = some z → W p l e (RM 1) s m args below meth c H locs 0 0 Q (F0 m 4 ls []) := by
  obtain ⟨hx, hb, hr, hml, hts, hown, hlocks, hA, hG⟩ := id K
  intro n
  induction n with
  | zero =>
    intro v1 v2 H locs ls hP hD hS hl h
    have h : none = some z := h
    cases h
  | succ n ih =>
    intro v1 v2 H locs ls hP hD hS hl h
    have h : gbX11_untold_4 F σxx (gX11_untold_4 F σxx n) v1 v2 = some z := h
    unfold gbX11_untold_4 at h
    refine lv_iload_n hx hb dX11_untold_4 rfl (lv_at hl 2 rfl) ?_
    refine lv_bipush (v := 6) hx hb dX11_untold_5 lb_6 ?_
    refine lv_icmp_ge (tgt := 37) hx hb dX11_untold_7 (by decide) (fun c1 => ?_) (fun c1 => ?_)
    · have h := if_t c1 h
      cases h
      exact kk _ _ _ hP hD hS (lv_sub hl [0, 1, 2] rfl)
    · have h := if_f c1 h
      refine lv_iload_n hx hb dX11_untold_10 rfl (lv_at hl 1 rfl) ?_
      refine lv_aload_n hx hb dX11_untold_11 rfl (lv_at hl 0 rfl) ?_
      refine va_get (D := G.1) (cl := vwCl) (tys := tysG G) (ci := 11) (v := .ref (xx 4)) (C := RX11) (T := TX11) (N := 37) hx hb hts iX11 hown hG.1 hP 0 rfl rfl 3 (Nat.le_of_ble_eq_true rfl) (hts _ tw_4_100) (fun _ h9 => h9) rfl dX11_untold_12 ?_
      refine lv_iload_n hx hb dX11_untold_15 rfl (lv_at hl 2 rfl) ?_
      obtain ⟨ck2, h⟩ := ck h
      refine va_iald hx hb hG.1 hP 4 0 rfl rfl ck2 dX11_untold_16 ?_
      refine lv_bipush (v := -9) hx hb dX11_untold_17 lb_m9 ?_
      refine lv_icmp_ne (tgt := 28) hx hb dX11_untold_19 (by decide) (fun c3 => ?_) (fun c3 => ?_)
      · have h := if_f c3 h
        refine lv_iconst (v := 0) hx hb dX11_untold_28 li_0 ?_
        refine lv_ior hx hb dX11_untold_29 ?_
        refine lv_istore_n (lv' := [(1, .int (v1 ||| (0 : Int32))), (0, .ref (xx 0)), (2, .int v2)]) hx hb dX11_untold_30 rfl hl (Nat.le_of_ble_eq_true rfl) rfl (fun ls hl => ?_)
        refine lv_iinc (v := v2 + 1) (lv' := [(2, .int (v2 + 1)), (1, .int (v1 ||| (0 : Int32))), (0, .ref (xx 0))]) hx hb dX11_untold_31 hl (k := 2) rfl (by rw [li_1]) (Nat.le_of_ble_eq_true rfl) rfl (fun ls hl => ?_)
        refine lv_goto (tgt := 4) hx hb dX11_untold_34 (by decide) ?_
        exact ih (v1 ||| (0 : Int32)) (v2 + 1) _ _ _ hP hD hS (lv_sub hl [2, 1, 0] rfl) h
      · have h := if_t c3 h
        refine lv_iconst (v := 1) hx hb dX11_untold_22 li_1 ?_
        refine lv_iload_n hx hb dX11_untold_23 rfl (lv_at hl 2 rfl) ?_
        refine lv_ishl hx hb dX11_untold_24 ?_
        refine lv_goto (tgt := 29) hx hb dX11_untold_25 (by decide) ?_
        refine lv_ior hx hb dX11_untold_29 ?_
        refine lv_istore_n (lv' := [(1, .int (v1 ||| ((1 : Int32) <<< (v2 &&& 31)))), (0, .ref (xx 0)), (2, .int v2)]) hx hb dX11_untold_30 rfl hl (Nat.le_of_ble_eq_true rfl) rfl (fun ls hl => ?_)
        refine lv_iinc (v := v2 + 1) (lv' := [(2, .int (v2 + 1)), (1, .int (v1 ||| ((1 : Int32) <<< (v2 &&& 31)))), (0, .ref (xx 0))]) hx hb dX11_untold_31 hl (k := 2) rfl (by rw [li_1]) (Nat.le_of_ble_eq_true rfl) rfl (fun ls hl => ?_)
        refine lv_goto (tgt := 4) hx hb dX11_untold_34 (by decide) ?_
        exact ih (v1 ||| ((1 : Int32) <<< (v2 &&& 31))) (v2 + 1) _ _ _ hP hD hS (lv_sub hl [2, 1, 0] rfl) h
def fX11_untold (F : Nat) (σxx : ST)  : Option (Int32) :=
  (gX11_untold_4 F σxx F (0 : Int32) (0 : Int32)).bind fun z4 =>
    some z4.1
theorem cdX11_untold : CallD yX11_untold 0 := by decide +kernel
set_option maxHeartbeats 4000000 in
set_option maxRecDepth 100000 in
theorem mX11_untold (l : Launch) (G : GP) (F : Nat) (xx : Nat → Nat) (σxx : ST)  {r : Int32} (h : fX11_untold F σxx  = some r) : CC l G yX11_untold cX11_untold 3 (some .int) 1 [.ref (xx 0)] (List.flatten [wX G xx σxx]) (List.flatten [wX G xx σxx]) (some (.int r)) := by
  refine CC.of (by decide) (Nat.le_of_ble_eq_true rfl) ?_
  intro p e s m below meth c A K hP hD hS ls hl
  obtain ⟨hx, hb, hr, hml, hts, hown, hlocks, hA, hG⟩ := id K
  have hl : lv_has ls 3 [(0, .ref (xx 0))] := hl
  unfold fX11_untold at h
  refine lv_iconst (v := 0) hx hb dX11_untold_0 li_0 ?_
  refine lv_istore_n (lv' := [(1, .int (0 : Int32)), (0, .ref (xx 0))]) hx hb dX11_untold_1 rfl hl (Nat.le_of_ble_eq_true rfl) rfl (fun ls hl => ?_)
  refine lv_iconst (v := 0) hx hb dX11_untold_2 li_0 ?_
  refine lv_istore_n (lv' := [(2, .int (0 : Int32)), (1, .int (0 : Int32)), (0, .ref (xx 0))]) hx hb dX11_untold_3 rfl hl (Nat.le_of_ble_eq_true rfl) rfl (fun ls hl => ?_)
  obtain ⟨z4, hz5, h⟩ := bd_ex h
  refine kX11_untold_4 K F xx σxx (fun H locs ls hP hD hS hl => ?_) F (0 : Int32) (0 : Int32) _ _ _ hP hD hS (lv_sub hl [2, 1, 0] rfl) hz5
  refine lv_iload_n hx hb dX11_untold_37 rfl (lv_at hl 1 rfl) ?_
  cases h
  exact rt_i K hP hD hS dX11_untold_38
def fX11_readPart (F : Nat) (σxx : ST) (x1 : Int32) : Option (ST) :=
  if x1 = (66 : Int32) then
    if (8 : Int32) ≤ (σxx.1 4) then
      if x1 = (72 : Int32) then
        if (3 : Int32) ≤ (σxx.1 5) then
          if x1 = (76 : Int32) then
            (fX11_untold F σxx).bind fun r349 =>
            if r349 = 0 then
              if x1 = (79 : Int32) then
                if (4 : Int32) ≤ (σxx.1 6) then
                  (fX11_fail F σxx).bind fun r356 =>
                  some r356
                else
                  nm (sI σxx 17 ((σxx.1 17) + (1 : Int32))) fun (s358 : ST) =>
                  (fX11_bits F (0 : Int32) (9 : Int32)).bind fun r360 =>
                  (fX11_sign F s358 r360).bind fun r362 =>
                  if ((4 : Int32) * (s358.1 6)) < 0 ∨ 16 ≤ ((4 : Int32) * (s358.1 6)).toNatClampNeg then none else
                  nm (sA r362.2 2 ((4 : Int32) * (s358.1 6)).toNatClampNeg r362.1) fun (s365 : ST) =>
                  (fX11_bits F (s365.2.1 2 ((4 : Int32) * (s358.1 6)).toNatClampNeg) (9 : Int32)).bind fun r367 =>
                  (fX11_sign F s365 r367).bind fun r369 =>
                  if (((4 : Int32) * (s358.1 6)) + (1 : Int32)) < 0 ∨ 16 ≤ (((4 : Int32) * (s358.1 6)) + (1 : Int32)).toNatClampNeg then none else
                  nm (sA r369.2 2 (((4 : Int32) * (s358.1 6)) + (1 : Int32)).toNatClampNeg r369.1) fun (s372 : ST) =>
                  (fX11_sign F s372 (65535 : Int32)).bind fun r374 =>
                  if (((4 : Int32) * (s358.1 6)) + (2 : Int32)) < 0 ∨ 16 ≤ (((4 : Int32) * (s358.1 6)) + (2 : Int32)).toNatClampNeg then none else
                  nm (sA r374.2 2 (((4 : Int32) * (s358.1 6)) + (2 : Int32)).toNatClampNeg r374.1) fun (s377 : ST) =>
                  (fX11_bits F (s377.2.1 2 (((4 : Int32) * (s358.1 6)) + (2 : Int32)).toNatClampNeg) (15 : Int32)).bind fun r379 =>
                  (fX11_sign F s377 r379).bind fun r381 =>
                  if (((4 : Int32) * (s358.1 6)) + (3 : Int32)) < 0 ∨ 16 ≤ (((4 : Int32) * (s358.1 6)) + (3 : Int32)).toNatClampNeg then none else
                  nm (sA r381.2 2 (((4 : Int32) * (s358.1 6)) + (3 : Int32)).toNatClampNeg r381.1) fun (s384 : ST) =>
                  nm (sI s384 6 ((s384.1 6) + (1 : Int32))) fun (s386 : ST) =>
                  some s386
              else
                (fX11_fail F σxx).bind fun r353 =>
                some r353
            else
              nm (sI σxx 17 ((σxx.1 17) + (1 : Int32))) fun (s388 : ST) =>
              (fX11_untold F s388).bind fun r390 =>
              (fX11_sign F s388 r390).bind fun r392 =>
              (fX11_sign F r392.2 (65535 : Int32)).bind fun r394 =>
              if (r394.2.1 18) = (-9 : Int32) then
                if r392.1 < 0 ∨ 6 ≤ r392.1.toNatClampNeg then none else
                nm (sA r394.2 3 r392.1.toNatClampNeg r394.1) fun (s401 : ST) =>
                some s401
              else
                if r392.1 < 0 ∨ 6 ≤ r392.1.toNatClampNeg then none else
                nm (sA r394.2 3 r392.1.toNatClampNeg (r394.2.2.1 3 r392.1.toNatClampNeg)) fun (s398 : ST) =>
                some s398
          else
            if x1 = (79 : Int32) then
              if (4 : Int32) ≤ (σxx.1 6) then
                (fX11_fail F σxx).bind fun r317 =>
                some r317
              else
                nm (sI σxx 17 ((σxx.1 17) + (1 : Int32))) fun (s319 : ST) =>
                (fX11_bits F (0 : Int32) (9 : Int32)).bind fun r321 =>
                (fX11_sign F s319 r321).bind fun r323 =>
                if ((4 : Int32) * (s319.1 6)) < 0 ∨ 16 ≤ ((4 : Int32) * (s319.1 6)).toNatClampNeg then none else
                nm (sA r323.2 2 ((4 : Int32) * (s319.1 6)).toNatClampNeg r323.1) fun (s326 : ST) =>
                (fX11_bits F (s326.2.1 2 ((4 : Int32) * (s319.1 6)).toNatClampNeg) (9 : Int32)).bind fun r328 =>
                (fX11_sign F s326 r328).bind fun r330 =>
                if (((4 : Int32) * (s319.1 6)) + (1 : Int32)) < 0 ∨ 16 ≤ (((4 : Int32) * (s319.1 6)) + (1 : Int32)).toNatClampNeg then none else
                nm (sA r330.2 2 (((4 : Int32) * (s319.1 6)) + (1 : Int32)).toNatClampNeg r330.1) fun (s333 : ST) =>
                (fX11_sign F s333 (65535 : Int32)).bind fun r335 =>
                if (((4 : Int32) * (s319.1 6)) + (2 : Int32)) < 0 ∨ 16 ≤ (((4 : Int32) * (s319.1 6)) + (2 : Int32)).toNatClampNeg then none else
                nm (sA r335.2 2 (((4 : Int32) * (s319.1 6)) + (2 : Int32)).toNatClampNeg r335.1) fun (s338 : ST) =>
                (fX11_bits F (s338.2.1 2 (((4 : Int32) * (s319.1 6)) + (2 : Int32)).toNatClampNeg) (15 : Int32)).bind fun r340 =>
                (fX11_sign F s338 r340).bind fun r342 =>
                if (((4 : Int32) * (s319.1 6)) + (3 : Int32)) < 0 ∨ 16 ≤ (((4 : Int32) * (s319.1 6)) + (3 : Int32)).toNatClampNeg then none else
                nm (sA r342.2 2 (((4 : Int32) * (s319.1 6)) + (3 : Int32)).toNatClampNeg r342.1) fun (s345 : ST) =>
                nm (sI s345 6 ((s345.1 6) + (1 : Int32))) fun (s347 : ST) =>
                some s347
            else
              (fX11_fail F σxx).bind fun r314 =>
              some r314
        else
          nm (sI σxx 17 ((σxx.1 17) + (1 : Int32))) fun (s403 : ST) =>
          (fX11_bits F (0 : Int32) (9 : Int32)).bind fun r405 =>
          (fX11_sign F s403 r405).bind fun r407 =>
          if ((4 : Int32) * (s403.1 5)) < 0 ∨ 12 ≤ ((4 : Int32) * (s403.1 5)).toNatClampNeg then none else
          nm (sA r407.2 1 ((4 : Int32) * (s403.1 5)).toNatClampNeg r407.1) fun (s410 : ST) =>
          (fX11_bits F (s410.2.1 1 ((4 : Int32) * (s403.1 5)).toNatClampNeg) (9 : Int32)).bind fun r412 =>
          (fX11_sign F s410 r412).bind fun r414 =>
          if (((4 : Int32) * (s403.1 5)) + (1 : Int32)) < 0 ∨ 12 ≤ (((4 : Int32) * (s403.1 5)) + (1 : Int32)).toNatClampNeg then none else
          nm (sA r414.2 1 (((4 : Int32) * (s403.1 5)) + (1 : Int32)).toNatClampNeg r414.1) fun (s417 : ST) =>
          (fX11_bits F (0 : Int32) (5 : Int32)).bind fun r419 =>
          (fX11_sign F s417 r419).bind fun r421 =>
          if (((4 : Int32) * (s403.1 5)) + (2 : Int32)) < 0 ∨ 12 ≤ (((4 : Int32) * (s403.1 5)) + (2 : Int32)).toNatClampNeg then none else
          nm (sA r421.2 1 (((4 : Int32) * (s403.1 5)) + (2 : Int32)).toNatClampNeg r421.1) fun (s424 : ST) =>
          (fX11_bits F (s424.2.1 1 (((4 : Int32) * (s403.1 5)) + (2 : Int32)).toNatClampNeg) (5 : Int32)).bind fun r426 =>
          (fX11_sign F s424 r426).bind fun r428 =>
          if (((4 : Int32) * (s403.1 5)) + (3 : Int32)) < 0 ∨ 12 ≤ (((4 : Int32) * (s403.1 5)) + (3 : Int32)).toNatClampNeg then none else
          nm (sA r428.2 1 (((4 : Int32) * (s403.1 5)) + (3 : Int32)).toNatClampNeg r428.1) fun (s431 : ST) =>
          nm (sI s431 5 ((s431.1 5) + (1 : Int32))) fun (s433 : ST) =>
          some s433
      else
        if x1 = (76 : Int32) then
          (fX11_untold F σxx).bind fun r257 =>
          if r257 = 0 then
            if x1 = (79 : Int32) then
              if (4 : Int32) ≤ (σxx.1 6) then
                (fX11_fail F σxx).bind fun r264 =>
                some r264
              else
                nm (sI σxx 17 ((σxx.1 17) + (1 : Int32))) fun (s266 : ST) =>
                (fX11_bits F (0 : Int32) (9 : Int32)).bind fun r268 =>
                (fX11_sign F s266 r268).bind fun r270 =>
                if ((4 : Int32) * (s266.1 6)) < 0 ∨ 16 ≤ ((4 : Int32) * (s266.1 6)).toNatClampNeg then none else
                nm (sA r270.2 2 ((4 : Int32) * (s266.1 6)).toNatClampNeg r270.1) fun (s273 : ST) =>
                (fX11_bits F (s273.2.1 2 ((4 : Int32) * (s266.1 6)).toNatClampNeg) (9 : Int32)).bind fun r275 =>
                (fX11_sign F s273 r275).bind fun r277 =>
                if (((4 : Int32) * (s266.1 6)) + (1 : Int32)) < 0 ∨ 16 ≤ (((4 : Int32) * (s266.1 6)) + (1 : Int32)).toNatClampNeg then none else
                nm (sA r277.2 2 (((4 : Int32) * (s266.1 6)) + (1 : Int32)).toNatClampNeg r277.1) fun (s280 : ST) =>
                (fX11_sign F s280 (65535 : Int32)).bind fun r282 =>
                if (((4 : Int32) * (s266.1 6)) + (2 : Int32)) < 0 ∨ 16 ≤ (((4 : Int32) * (s266.1 6)) + (2 : Int32)).toNatClampNeg then none else
                nm (sA r282.2 2 (((4 : Int32) * (s266.1 6)) + (2 : Int32)).toNatClampNeg r282.1) fun (s285 : ST) =>
                (fX11_bits F (s285.2.1 2 (((4 : Int32) * (s266.1 6)) + (2 : Int32)).toNatClampNeg) (15 : Int32)).bind fun r287 =>
                (fX11_sign F s285 r287).bind fun r289 =>
                if (((4 : Int32) * (s266.1 6)) + (3 : Int32)) < 0 ∨ 16 ≤ (((4 : Int32) * (s266.1 6)) + (3 : Int32)).toNatClampNeg then none else
                nm (sA r289.2 2 (((4 : Int32) * (s266.1 6)) + (3 : Int32)).toNatClampNeg r289.1) fun (s292 : ST) =>
                nm (sI s292 6 ((s292.1 6) + (1 : Int32))) fun (s294 : ST) =>
                some s294
            else
              (fX11_fail F σxx).bind fun r261 =>
              some r261
          else
            nm (sI σxx 17 ((σxx.1 17) + (1 : Int32))) fun (s296 : ST) =>
            (fX11_untold F s296).bind fun r298 =>
            (fX11_sign F s296 r298).bind fun r300 =>
            (fX11_sign F r300.2 (65535 : Int32)).bind fun r302 =>
            if (r302.2.1 18) = (-9 : Int32) then
              if r300.1 < 0 ∨ 6 ≤ r300.1.toNatClampNeg then none else
              nm (sA r302.2 3 r300.1.toNatClampNeg r302.1) fun (s309 : ST) =>
              some s309
            else
              if r300.1 < 0 ∨ 6 ≤ r300.1.toNatClampNeg then none else
              nm (sA r302.2 3 r300.1.toNatClampNeg (r302.2.2.1 3 r300.1.toNatClampNeg)) fun (s306 : ST) =>
              some s306
        else
          if x1 = (79 : Int32) then
            if (4 : Int32) ≤ (σxx.1 6) then
              (fX11_fail F σxx).bind fun r225 =>
              some r225
            else
              nm (sI σxx 17 ((σxx.1 17) + (1 : Int32))) fun (s227 : ST) =>
              (fX11_bits F (0 : Int32) (9 : Int32)).bind fun r229 =>
              (fX11_sign F s227 r229).bind fun r231 =>
              if ((4 : Int32) * (s227.1 6)) < 0 ∨ 16 ≤ ((4 : Int32) * (s227.1 6)).toNatClampNeg then none else
              nm (sA r231.2 2 ((4 : Int32) * (s227.1 6)).toNatClampNeg r231.1) fun (s234 : ST) =>
              (fX11_bits F (s234.2.1 2 ((4 : Int32) * (s227.1 6)).toNatClampNeg) (9 : Int32)).bind fun r236 =>
              (fX11_sign F s234 r236).bind fun r238 =>
              if (((4 : Int32) * (s227.1 6)) + (1 : Int32)) < 0 ∨ 16 ≤ (((4 : Int32) * (s227.1 6)) + (1 : Int32)).toNatClampNeg then none else
              nm (sA r238.2 2 (((4 : Int32) * (s227.1 6)) + (1 : Int32)).toNatClampNeg r238.1) fun (s241 : ST) =>
              (fX11_sign F s241 (65535 : Int32)).bind fun r243 =>
              if (((4 : Int32) * (s227.1 6)) + (2 : Int32)) < 0 ∨ 16 ≤ (((4 : Int32) * (s227.1 6)) + (2 : Int32)).toNatClampNeg then none else
              nm (sA r243.2 2 (((4 : Int32) * (s227.1 6)) + (2 : Int32)).toNatClampNeg r243.1) fun (s246 : ST) =>
              (fX11_bits F (s246.2.1 2 (((4 : Int32) * (s227.1 6)) + (2 : Int32)).toNatClampNeg) (15 : Int32)).bind fun r248 =>
              (fX11_sign F s246 r248).bind fun r250 =>
              if (((4 : Int32) * (s227.1 6)) + (3 : Int32)) < 0 ∨ 16 ≤ (((4 : Int32) * (s227.1 6)) + (3 : Int32)).toNatClampNeg then none else
              nm (sA r250.2 2 (((4 : Int32) * (s227.1 6)) + (3 : Int32)).toNatClampNeg r250.1) fun (s253 : ST) =>
              nm (sI s253 6 ((s253.1 6) + (1 : Int32))) fun (s255 : ST) =>
              some s255
          else
            (fX11_fail F σxx).bind fun r222 =>
            some r222
    else
      (fX11_readBodyPart F σxx).bind fun r435 =>
      some r435
  else
    if x1 = (72 : Int32) then
      if (3 : Int32) ≤ (σxx.1 5) then
        if x1 = (76 : Int32) then
          (fX11_untold F σxx).bind fun r132 =>
          if r132 = 0 then
            if x1 = (79 : Int32) then
              if (4 : Int32) ≤ (σxx.1 6) then
                (fX11_fail F σxx).bind fun r139 =>
                some r139
              else
                nm (sI σxx 17 ((σxx.1 17) + (1 : Int32))) fun (s141 : ST) =>
                (fX11_bits F (0 : Int32) (9 : Int32)).bind fun r143 =>
                (fX11_sign F s141 r143).bind fun r145 =>
                if ((4 : Int32) * (s141.1 6)) < 0 ∨ 16 ≤ ((4 : Int32) * (s141.1 6)).toNatClampNeg then none else
                nm (sA r145.2 2 ((4 : Int32) * (s141.1 6)).toNatClampNeg r145.1) fun (s148 : ST) =>
                (fX11_bits F (s148.2.1 2 ((4 : Int32) * (s141.1 6)).toNatClampNeg) (9 : Int32)).bind fun r150 =>
                (fX11_sign F s148 r150).bind fun r152 =>
                if (((4 : Int32) * (s141.1 6)) + (1 : Int32)) < 0 ∨ 16 ≤ (((4 : Int32) * (s141.1 6)) + (1 : Int32)).toNatClampNeg then none else
                nm (sA r152.2 2 (((4 : Int32) * (s141.1 6)) + (1 : Int32)).toNatClampNeg r152.1) fun (s155 : ST) =>
                (fX11_sign F s155 (65535 : Int32)).bind fun r157 =>
                if (((4 : Int32) * (s141.1 6)) + (2 : Int32)) < 0 ∨ 16 ≤ (((4 : Int32) * (s141.1 6)) + (2 : Int32)).toNatClampNeg then none else
                nm (sA r157.2 2 (((4 : Int32) * (s141.1 6)) + (2 : Int32)).toNatClampNeg r157.1) fun (s160 : ST) =>
                (fX11_bits F (s160.2.1 2 (((4 : Int32) * (s141.1 6)) + (2 : Int32)).toNatClampNeg) (15 : Int32)).bind fun r162 =>
                (fX11_sign F s160 r162).bind fun r164 =>
                if (((4 : Int32) * (s141.1 6)) + (3 : Int32)) < 0 ∨ 16 ≤ (((4 : Int32) * (s141.1 6)) + (3 : Int32)).toNatClampNeg then none else
                nm (sA r164.2 2 (((4 : Int32) * (s141.1 6)) + (3 : Int32)).toNatClampNeg r164.1) fun (s167 : ST) =>
                nm (sI s167 6 ((s167.1 6) + (1 : Int32))) fun (s169 : ST) =>
                some s169
            else
              (fX11_fail F σxx).bind fun r136 =>
              some r136
          else
            nm (sI σxx 17 ((σxx.1 17) + (1 : Int32))) fun (s171 : ST) =>
            (fX11_untold F s171).bind fun r173 =>
            (fX11_sign F s171 r173).bind fun r175 =>
            (fX11_sign F r175.2 (65535 : Int32)).bind fun r177 =>
            if (r177.2.1 18) = (-9 : Int32) then
              if r175.1 < 0 ∨ 6 ≤ r175.1.toNatClampNeg then none else
              nm (sA r177.2 3 r175.1.toNatClampNeg r177.1) fun (s184 : ST) =>
              some s184
            else
              if r175.1 < 0 ∨ 6 ≤ r175.1.toNatClampNeg then none else
              nm (sA r177.2 3 r175.1.toNatClampNeg (r177.2.2.1 3 r175.1.toNatClampNeg)) fun (s181 : ST) =>
              some s181
        else
          if x1 = (79 : Int32) then
            if (4 : Int32) ≤ (σxx.1 6) then
              (fX11_fail F σxx).bind fun r100 =>
              some r100
            else
              nm (sI σxx 17 ((σxx.1 17) + (1 : Int32))) fun (s102 : ST) =>
              (fX11_bits F (0 : Int32) (9 : Int32)).bind fun r104 =>
              (fX11_sign F s102 r104).bind fun r106 =>
              if ((4 : Int32) * (s102.1 6)) < 0 ∨ 16 ≤ ((4 : Int32) * (s102.1 6)).toNatClampNeg then none else
              nm (sA r106.2 2 ((4 : Int32) * (s102.1 6)).toNatClampNeg r106.1) fun (s109 : ST) =>
              (fX11_bits F (s109.2.1 2 ((4 : Int32) * (s102.1 6)).toNatClampNeg) (9 : Int32)).bind fun r111 =>
              (fX11_sign F s109 r111).bind fun r113 =>
              if (((4 : Int32) * (s102.1 6)) + (1 : Int32)) < 0 ∨ 16 ≤ (((4 : Int32) * (s102.1 6)) + (1 : Int32)).toNatClampNeg then none else
              nm (sA r113.2 2 (((4 : Int32) * (s102.1 6)) + (1 : Int32)).toNatClampNeg r113.1) fun (s116 : ST) =>
              (fX11_sign F s116 (65535 : Int32)).bind fun r118 =>
              if (((4 : Int32) * (s102.1 6)) + (2 : Int32)) < 0 ∨ 16 ≤ (((4 : Int32) * (s102.1 6)) + (2 : Int32)).toNatClampNeg then none else
              nm (sA r118.2 2 (((4 : Int32) * (s102.1 6)) + (2 : Int32)).toNatClampNeg r118.1) fun (s121 : ST) =>
              (fX11_bits F (s121.2.1 2 (((4 : Int32) * (s102.1 6)) + (2 : Int32)).toNatClampNeg) (15 : Int32)).bind fun r123 =>
              (fX11_sign F s121 r123).bind fun r125 =>
              if (((4 : Int32) * (s102.1 6)) + (3 : Int32)) < 0 ∨ 16 ≤ (((4 : Int32) * (s102.1 6)) + (3 : Int32)).toNatClampNeg then none else
              nm (sA r125.2 2 (((4 : Int32) * (s102.1 6)) + (3 : Int32)).toNatClampNeg r125.1) fun (s128 : ST) =>
              nm (sI s128 6 ((s128.1 6) + (1 : Int32))) fun (s130 : ST) =>
              some s130
          else
            (fX11_fail F σxx).bind fun r97 =>
            some r97
      else
        nm (sI σxx 17 ((σxx.1 17) + (1 : Int32))) fun (s186 : ST) =>
        (fX11_bits F (0 : Int32) (9 : Int32)).bind fun r188 =>
        (fX11_sign F s186 r188).bind fun r190 =>
        if ((4 : Int32) * (s186.1 5)) < 0 ∨ 12 ≤ ((4 : Int32) * (s186.1 5)).toNatClampNeg then none else
        nm (sA r190.2 1 ((4 : Int32) * (s186.1 5)).toNatClampNeg r190.1) fun (s193 : ST) =>
        (fX11_bits F (s193.2.1 1 ((4 : Int32) * (s186.1 5)).toNatClampNeg) (9 : Int32)).bind fun r195 =>
        (fX11_sign F s193 r195).bind fun r197 =>
        if (((4 : Int32) * (s186.1 5)) + (1 : Int32)) < 0 ∨ 12 ≤ (((4 : Int32) * (s186.1 5)) + (1 : Int32)).toNatClampNeg then none else
        nm (sA r197.2 1 (((4 : Int32) * (s186.1 5)) + (1 : Int32)).toNatClampNeg r197.1) fun (s200 : ST) =>
        (fX11_bits F (0 : Int32) (5 : Int32)).bind fun r202 =>
        (fX11_sign F s200 r202).bind fun r204 =>
        if (((4 : Int32) * (s186.1 5)) + (2 : Int32)) < 0 ∨ 12 ≤ (((4 : Int32) * (s186.1 5)) + (2 : Int32)).toNatClampNeg then none else
        nm (sA r204.2 1 (((4 : Int32) * (s186.1 5)) + (2 : Int32)).toNatClampNeg r204.1) fun (s207 : ST) =>
        (fX11_bits F (s207.2.1 1 (((4 : Int32) * (s186.1 5)) + (2 : Int32)).toNatClampNeg) (5 : Int32)).bind fun r209 =>
        (fX11_sign F s207 r209).bind fun r211 =>
        if (((4 : Int32) * (s186.1 5)) + (3 : Int32)) < 0 ∨ 12 ≤ (((4 : Int32) * (s186.1 5)) + (3 : Int32)).toNatClampNeg then none else
        nm (sA r211.2 1 (((4 : Int32) * (s186.1 5)) + (3 : Int32)).toNatClampNeg r211.1) fun (s214 : ST) =>
        nm (sI s214 5 ((s214.1 5) + (1 : Int32))) fun (s216 : ST) =>
        some s216
    else
      if x1 = (76 : Int32) then
        (fX11_untold F σxx).bind fun r40 =>
        if r40 = 0 then
          if x1 = (79 : Int32) then
            if (4 : Int32) ≤ (σxx.1 6) then
              (fX11_fail F σxx).bind fun r47 =>
              some r47
            else
              nm (sI σxx 17 ((σxx.1 17) + (1 : Int32))) fun (s49 : ST) =>
              (fX11_bits F (0 : Int32) (9 : Int32)).bind fun r51 =>
              (fX11_sign F s49 r51).bind fun r53 =>
              if ((4 : Int32) * (s49.1 6)) < 0 ∨ 16 ≤ ((4 : Int32) * (s49.1 6)).toNatClampNeg then none else
              nm (sA r53.2 2 ((4 : Int32) * (s49.1 6)).toNatClampNeg r53.1) fun (s56 : ST) =>
              (fX11_bits F (s56.2.1 2 ((4 : Int32) * (s49.1 6)).toNatClampNeg) (9 : Int32)).bind fun r58 =>
              (fX11_sign F s56 r58).bind fun r60 =>
              if (((4 : Int32) * (s49.1 6)) + (1 : Int32)) < 0 ∨ 16 ≤ (((4 : Int32) * (s49.1 6)) + (1 : Int32)).toNatClampNeg then none else
              nm (sA r60.2 2 (((4 : Int32) * (s49.1 6)) + (1 : Int32)).toNatClampNeg r60.1) fun (s63 : ST) =>
              (fX11_sign F s63 (65535 : Int32)).bind fun r65 =>
              if (((4 : Int32) * (s49.1 6)) + (2 : Int32)) < 0 ∨ 16 ≤ (((4 : Int32) * (s49.1 6)) + (2 : Int32)).toNatClampNeg then none else
              nm (sA r65.2 2 (((4 : Int32) * (s49.1 6)) + (2 : Int32)).toNatClampNeg r65.1) fun (s68 : ST) =>
              (fX11_bits F (s68.2.1 2 (((4 : Int32) * (s49.1 6)) + (2 : Int32)).toNatClampNeg) (15 : Int32)).bind fun r70 =>
              (fX11_sign F s68 r70).bind fun r72 =>
              if (((4 : Int32) * (s49.1 6)) + (3 : Int32)) < 0 ∨ 16 ≤ (((4 : Int32) * (s49.1 6)) + (3 : Int32)).toNatClampNeg then none else
              nm (sA r72.2 2 (((4 : Int32) * (s49.1 6)) + (3 : Int32)).toNatClampNeg r72.1) fun (s75 : ST) =>
              nm (sI s75 6 ((s75.1 6) + (1 : Int32))) fun (s77 : ST) =>
              some s77
          else
            (fX11_fail F σxx).bind fun r44 =>
            some r44
        else
          nm (sI σxx 17 ((σxx.1 17) + (1 : Int32))) fun (s79 : ST) =>
          (fX11_untold F s79).bind fun r81 =>
          (fX11_sign F s79 r81).bind fun r83 =>
          (fX11_sign F r83.2 (65535 : Int32)).bind fun r85 =>
          if (r85.2.1 18) = (-9 : Int32) then
            if r83.1 < 0 ∨ 6 ≤ r83.1.toNatClampNeg then none else
            nm (sA r85.2 3 r83.1.toNatClampNeg r85.1) fun (s92 : ST) =>
            some s92
          else
            if r83.1 < 0 ∨ 6 ≤ r83.1.toNatClampNeg then none else
            nm (sA r85.2 3 r83.1.toNatClampNeg (r85.2.2.1 3 r83.1.toNatClampNeg)) fun (s89 : ST) =>
            some s89
      else
        if x1 = (79 : Int32) then
          if (4 : Int32) ≤ (σxx.1 6) then
            (fX11_fail F σxx).bind fun r8 =>
            some r8
          else
            nm (sI σxx 17 ((σxx.1 17) + (1 : Int32))) fun (s10 : ST) =>
            (fX11_bits F (0 : Int32) (9 : Int32)).bind fun r12 =>
            (fX11_sign F s10 r12).bind fun r14 =>
            if ((4 : Int32) * (s10.1 6)) < 0 ∨ 16 ≤ ((4 : Int32) * (s10.1 6)).toNatClampNeg then none else
            nm (sA r14.2 2 ((4 : Int32) * (s10.1 6)).toNatClampNeg r14.1) fun (s17 : ST) =>
            (fX11_bits F (s17.2.1 2 ((4 : Int32) * (s10.1 6)).toNatClampNeg) (9 : Int32)).bind fun r19 =>
            (fX11_sign F s17 r19).bind fun r21 =>
            if (((4 : Int32) * (s10.1 6)) + (1 : Int32)) < 0 ∨ 16 ≤ (((4 : Int32) * (s10.1 6)) + (1 : Int32)).toNatClampNeg then none else
            nm (sA r21.2 2 (((4 : Int32) * (s10.1 6)) + (1 : Int32)).toNatClampNeg r21.1) fun (s24 : ST) =>
            (fX11_sign F s24 (65535 : Int32)).bind fun r26 =>
            if (((4 : Int32) * (s10.1 6)) + (2 : Int32)) < 0 ∨ 16 ≤ (((4 : Int32) * (s10.1 6)) + (2 : Int32)).toNatClampNeg then none else
            nm (sA r26.2 2 (((4 : Int32) * (s10.1 6)) + (2 : Int32)).toNatClampNeg r26.1) fun (s29 : ST) =>
            (fX11_bits F (s29.2.1 2 (((4 : Int32) * (s10.1 6)) + (2 : Int32)).toNatClampNeg) (15 : Int32)).bind fun r31 =>
            (fX11_sign F s29 r31).bind fun r33 =>
            if (((4 : Int32) * (s10.1 6)) + (3 : Int32)) < 0 ∨ 16 ≤ (((4 : Int32) * (s10.1 6)) + (3 : Int32)).toNatClampNeg then none else
            nm (sA r33.2 2 (((4 : Int32) * (s10.1 6)) + (3 : Int32)).toNatClampNeg r33.1) fun (s36 : ST) =>
            nm (sI s36 6 ((s36.1 6) + (1 : Int32))) fun (s38 : ST) =>
            some s38
        else
          (fX11_fail F σxx).bind fun r5 =>
          some r5
theorem cdX11_readPart : CallD yX11_readPart 1 := by decide +kernel
set_option maxHeartbeats 4000000 in
set_option maxRecDepth 100000 in
theorem mX11_readPart (l : Launch) (G : GP) (F : Nat) (xx : Nat → Nat) (σxx : ST) (x1 : Int32) {r : ST} (h : fX11_readPart F σxx x1 = some r) : CC l G yX11_readPart cX11_readPart 4 none 4 [.ref (xx 0), .int x1] (List.flatten [wX G xx σxx]) (List.flatten [wX G xx r]) none := by
  refine CC.of (by decide) (Nat.le_of_ble_eq_true rfl) ?_
  intro p e s m below meth c A K hP hD hS ls hl
  obtain ⟨hx, hb, hr, hml, hts, hown, hlocks, hA, hG⟩ := id K
  have hl : lv_has ls 4 [(0, .ref (xx 0)), (1, .int x1)] := hl
  unfold fX11_readPart at h
  refine lv_iload_n hx hb dX11_readPart_0 rfl (lv_at hl 1 rfl) ?_
  refine lv_bipush (v := 66) hx hb dX11_readPart_1 lb_66 ?_
  refine lv_icmp_ne (tgt := 22) hx hb dX11_readPart_3 (by decide) (fun c1 => ?_) (fun c1 => ?_)
  · have h := if_f c1 h
    refine lv_iload_n hx hb dX11_readPart_22 rfl (lv_at hl 1 rfl) ?_
    refine lv_bipush (v := 72) hx hb dX11_readPart_23 lb_72 ?_
    refine lv_icmp_ne (tgt := 146) hx hb dX11_readPart_25 (by decide) (fun c2 => ?_) (fun c2 => ?_)
    · have h := if_f c2 h
      refine lv_iload_n hx hb dX11_readPart_146 rfl (lv_at hl 1 rfl) ?_
      refine lv_bipush (v := 76) hx hb dX11_readPart_147 lb_76 ?_
      refine lv_icmp_ne (tgt := 213) hx hb dX11_readPart_149 (by decide) (fun c3 => ?_) (fun c3 => ?_)
      · have h := if_f c3 h
        refine lv_iload_n hx hb dX11_readPart_213 rfl (lv_at hl 1 rfl) ?_
        refine lv_bipush (v := 79) hx hb dX11_readPart_214 lb_79 ?_
        refine lv_icmp_ne (tgt := 335) hx hb dX11_readPart_216 (by decide) (fun c4 => ?_) (fun c4 => ?_)
        · have h := if_f c4 h
          refine lv_aload_n hx hb dX11_readPart_335 rfl (lv_at hl 0 rfl) ?_
          obtain ⟨r5, hc6, h⟩ := bd_ex h
          refine sl_V (q0 := 0) (ci := 11) (C := RX11) K (mX11_fail l G F xx σxx hc6) tw_5_5 tw_1_12 tw_5_4 tw_0_4 tw_5_2 cdX11_fail ⟨Nat.le_of_ble_eq_true rfl, Nat.le_of_ble_eq_true rfl⟩ hP hD hS [0] rfl rfl rfl rfl rfl rfl rfl hl.1 (Nat.le_of_ble_eq_true rfl) ⟨Nat.zero_le _, Nat.zero_le _⟩ dX11_readPart_336 (fun H locs hP hD hS => ?_)
          have hP : va_P G.1 vwCl (List.flatten [wX G xx r5]) H := hP
          have hD : va_D A (List.flatten [wX G xx r5]) := hD
          cases h
          exact rt_v K hP hD hS dX11_readPart_339
        · have h := if_t c4 h
          refine lv_aload_n hx hb dX11_readPart_219 rfl (lv_at hl 0 rfl) ?_
          refine va_get (D := G.1) (cl := vwCl) (tys := tysG G) (ci := 11) (v := .int (σxx.1 6)) (C := RX11) (T := TX11) (N := 37) hx hb hts iX11 hown hG.1 hP 0 rfl rfl 6 (Nat.le_of_ble_eq_true rfl) (hts _ tw_4_103) (fun _ h9 => h9) rfl dX11_readPart_220 ?_
          refine lv_iconst (v := 4) hx hb dX11_readPart_223 li_4 ?_
          refine lv_icmp_ge (tgt := 335) hx hb dX11_readPart_224 (by decide) (fun c7 => ?_) (fun c7 => ?_)
          · have h := if_t c7 h
            refine lv_aload_n hx hb dX11_readPart_335 rfl (lv_at hl 0 rfl) ?_
            obtain ⟨r8, hc9, h⟩ := bd_ex h
            refine sl_V (q0 := 0) (ci := 11) (C := RX11) K (mX11_fail l G F xx σxx hc9) tw_5_5 tw_1_12 tw_5_4 tw_0_4 tw_5_2 cdX11_fail ⟨Nat.le_of_ble_eq_true rfl, Nat.le_of_ble_eq_true rfl⟩ hP hD hS [0] rfl rfl rfl rfl rfl rfl rfl hl.1 (Nat.le_of_ble_eq_true rfl) ⟨Nat.zero_le _, Nat.zero_le _⟩ dX11_readPart_336 (fun H locs hP hD hS => ?_)
            have hP : va_P G.1 vwCl (List.flatten [wX G xx r8]) H := hP
            have hD : va_D A (List.flatten [wX G xx r8]) := hD
            cases h
            exact rt_v K hP hD hS dX11_readPart_339
          · have h := if_f c7 h
            refine lv_aload_n hx hb dX11_readPart_227 rfl (lv_at hl 0 rfl) ?_
            refine lv_dup hx hb dX11_readPart_228 rfl ?_
            refine va_get (D := G.1) (cl := vwCl) (tys := tysG G) (ci := 11) (v := .int (σxx.1 17)) (C := RX11) (T := TX11) (N := 37) hx hb hts iX11 hown hG.1 hP 0 rfl rfl 17 (Nat.le_of_ble_eq_true rfl) (hts _ tw_4_114) (fun _ h9 => h9) rfl dX11_readPart_229 ?_
            refine lv_iconst (v := 1) hx hb dX11_readPart_232 li_1 ?_
            refine lv_iadd hx hb dX11_readPart_233 ?_
            obtain ⟨s10, e11, h⟩ := nm_ex h
            refine va_put (D := G.1) (cl := vwCl) (tys := tysG G) (ci := 11) (v := .int ((σxx.1 17) + (1 : Int32))) (ty := .int) (C := RX11) (T := TX11) (N := 37) hx hb hts iX11 tyX11 tyX11_ok nmX11 hown hG.1 hP hD hS 0 rfl rfl 17 (Nat.le_of_ble_eq_true rfl) (hts _ tw_4_114) (fun _ h9 => h9) rfl (by decide +kernel) rfl rfl (Nat.le_of_ble_eq_true rfl) dX11_readPart_234 (fun H locs hP hD hS => ?_)
            have hP : va_P G.1 vwCl (List.flatten [wX G xx s10]) H := by rw [e11]; exact hP
            have hD : va_D A (List.flatten [wX G xx s10]) := by rw [e11]; exact hD
            refine lv_iconst (v := 4) hx hb dX11_readPart_237 li_4 ?_
            refine lv_aload_n hx hb dX11_readPart_238 rfl (lv_at hl 0 rfl) ?_
            refine va_get (D := G.1) (cl := vwCl) (tys := tysG G) (ci := 11) (v := .int (s10.1 6)) (C := RX11) (T := TX11) (N := 37) hx hb hts iX11 hown hG.1 hP 0 rfl rfl 6 (Nat.le_of_ble_eq_true rfl) (hts _ tw_4_103) (fun _ h9 => h9) rfl dX11_readPart_239 ?_
            refine lv_imul hx hb dX11_readPart_242 ?_
            refine lv_istore_n (lv' := [(2, .int ((4 : Int32) * (s10.1 6))), (0, .ref (xx 0)), (1, .int x1)]) hx hb dX11_readPart_243 rfl hl (Nat.le_of_ble_eq_true rfl) rfl (fun ls hl => ?_)
            refine lv_aload_n hx hb dX11_readPart_244 rfl (lv_at hl 1 rfl) ?_
            refine va_get (D := G.1) (cl := vwCl) (tys := tysG G) (ci := 11) (v := .ref (xx 3)) (C := RX11) (T := TX11) (N := 37) hx hb hts iX11 hown hG.1 hP 0 rfl rfl 2 (Nat.le_of_ble_eq_true rfl) (hts _ tw_4_99) (fun _ h9 => h9) rfl dX11_readPart_245 ?_
            refine lv_iload_n hx hb dX11_readPart_248 rfl (lv_at hl 0 rfl) ?_
            refine lv_aload_n hx hb dX11_readPart_249 rfl (lv_at hl 1 rfl) ?_
            refine lv_iconst (v := 0) hx hb dX11_readPart_250 li_0 ?_
            refine lv_bipush (v := 9) hx hb dX11_readPart_251 lb_9 ?_
            obtain ⟨r12, hc13, h⟩ := bd_ex h
            refine sl_S K (mX11_bits l G F (0 : Int32) (9 : Int32) hc13) tw_5_20 tw_1_12 tw_5_19 tw_5_18 cdX11_bits ⟨Nat.le_of_ble_eq_true rfl, Nat.le_of_ble_eq_true rfl⟩ hP hD hS [] rfl rfl rfl rfl hl.1 (Nat.le_of_ble_eq_true rfl) ⟨Nat.zero_le _, Nat.zero_le _⟩ dX11_readPart_253 (fun H locs hP hD hS => ?_)
            have hP : va_P G.1 vwCl (List.flatten [wX G xx s10]) H := hP
            have hD : va_D A (List.flatten [wX G xx s10]) := hD
            obtain ⟨r14, hc15, h⟩ := bd_ex h
            refine sl_V (q0 := 0) (ci := 11) (C := RX11) K (mX11_sign l G F xx s10 r12 hc15) tw_5_13 tw_1_12 tw_5_12 tw_0_6 tw_5_10 cdX11_sign ⟨Nat.le_of_ble_eq_true rfl, Nat.le_of_ble_eq_true rfl⟩ hP hD hS [0] rfl rfl rfl rfl rfl rfl rfl hl.1 (Nat.le_of_ble_eq_true rfl) ⟨Nat.zero_le _, Nat.zero_le _⟩ dX11_readPart_256 (fun H locs hP hD hS => ?_)
            have hP : va_P G.1 vwCl (List.flatten [wX G xx r14.2]) H := hP
            have hD : va_D A (List.flatten [wX G xx r14.2]) := hD
            obtain ⟨ck16, h⟩ := ck h
            obtain ⟨s17, e18, h⟩ := nm_ex h
            refine va_iast hx hb hG.1 hP hD hS 3 0 rfl rfl ck16 dX11_readPart_259 (fun H locs hP hD hS => ?_)
            have hP : va_P G.1 vwCl (List.flatten [wX G xx s17]) H := by rw [e18]; exact hP
            have hD : va_D A (List.flatten [wX G xx s17]) := by rw [e18]; exact hD
            refine lv_aload_n hx hb dX11_readPart_260 rfl (lv_at hl 1 rfl) ?_
            refine va_get (D := G.1) (cl := vwCl) (tys := tysG G) (ci := 11) (v := .ref (xx 3)) (C := RX11) (T := TX11) (N := 37) hx hb hts iX11 hown hG.1 hP 0 rfl rfl 2 (Nat.le_of_ble_eq_true rfl) (hts _ tw_4_99) (fun _ h9 => h9) rfl dX11_readPart_261 ?_
            refine lv_iload_n hx hb dX11_readPart_264 rfl (lv_at hl 0 rfl) ?_
            refine lv_iconst (v := 1) hx hb dX11_readPart_265 li_1 ?_
            refine lv_iadd hx hb dX11_readPart_266 ?_
            refine lv_aload_n hx hb dX11_readPart_267 rfl (lv_at hl 1 rfl) ?_
            refine lv_aload_n hx hb dX11_readPart_268 rfl (lv_at hl 1 rfl) ?_
            refine va_get (D := G.1) (cl := vwCl) (tys := tysG G) (ci := 11) (v := .ref (xx 3)) (C := RX11) (T := TX11) (N := 37) hx hb hts iX11 hown hG.1 hP 0 rfl rfl 2 (Nat.le_of_ble_eq_true rfl) (hts _ tw_4_99) (fun _ h9 => h9) rfl dX11_readPart_269 ?_
            refine lv_iload_n hx hb dX11_readPart_272 rfl (lv_at hl 0 rfl) ?_
            refine va_iald hx hb hG.1 hP 3 0 rfl rfl ck16 dX11_readPart_273 ?_
            refine lv_bipush (v := 9) hx hb dX11_readPart_274 lb_9 ?_
            obtain ⟨r19, hc20, h⟩ := bd_ex h
            refine sl_S K (mX11_bits l G F (s17.2.1 2 ((4 : Int32) * (s10.1 6)).toNatClampNeg) (9 : Int32) hc20) tw_5_20 tw_1_12 tw_5_19 tw_5_18 cdX11_bits ⟨Nat.le_of_ble_eq_true rfl, Nat.le_of_ble_eq_true rfl⟩ hP hD hS [] rfl rfl rfl rfl hl.1 (Nat.le_of_ble_eq_true rfl) ⟨Nat.zero_le _, Nat.zero_le _⟩ dX11_readPart_276 (fun H locs hP hD hS => ?_)
            have hP : va_P G.1 vwCl (List.flatten [wX G xx s17]) H := hP
            have hD : va_D A (List.flatten [wX G xx s17]) := hD
            obtain ⟨r21, hc22, h⟩ := bd_ex h
            refine sl_V (q0 := 0) (ci := 11) (C := RX11) K (mX11_sign l G F xx s17 r19 hc22) tw_5_13 tw_1_12 tw_5_12 tw_0_6 tw_5_10 cdX11_sign ⟨Nat.le_of_ble_eq_true rfl, Nat.le_of_ble_eq_true rfl⟩ hP hD hS [0] rfl rfl rfl rfl rfl rfl rfl hl.1 (Nat.le_of_ble_eq_true rfl) ⟨Nat.zero_le _, Nat.zero_le _⟩ dX11_readPart_279 (fun H locs hP hD hS => ?_)
            have hP : va_P G.1 vwCl (List.flatten [wX G xx r21.2]) H := hP
            have hD : va_D A (List.flatten [wX G xx r21.2]) := hD
            obtain ⟨ck23, h⟩ := ck h
            obtain ⟨s24, e25, h⟩ := nm_ex h
            refine va_iast hx hb hG.1 hP hD hS 3 0 rfl rfl ck23 dX11_readPart_282 (fun H locs hP hD hS => ?_)
            have hP : va_P G.1 vwCl (List.flatten [wX G xx s24]) H := by rw [e25]; exact hP
            have hD : va_D A (List.flatten [wX G xx s24]) := by rw [e25]; exact hD
            refine lv_aload_n hx hb dX11_readPart_283 rfl (lv_at hl 1 rfl) ?_
            refine va_get (D := G.1) (cl := vwCl) (tys := tysG G) (ci := 11) (v := .ref (xx 3)) (C := RX11) (T := TX11) (N := 37) hx hb hts iX11 hown hG.1 hP 0 rfl rfl 2 (Nat.le_of_ble_eq_true rfl) (hts _ tw_4_99) (fun _ h9 => h9) rfl dX11_readPart_284 ?_
            refine lv_iload_n hx hb dX11_readPart_287 rfl (lv_at hl 0 rfl) ?_
            refine lv_iconst (v := 2) hx hb dX11_readPart_288 li_2 ?_
            refine lv_iadd hx hb dX11_readPart_289 ?_
            refine lv_aload_n hx hb dX11_readPart_290 rfl (lv_at hl 1 rfl) ?_
            refine lv_ldc (v := 65535) hx hb hown (hts _ tw_5_25) dX11_readPart_291 ?_
            obtain ⟨r26, hc27, h⟩ := bd_ex h
            refine sl_V (q0 := 0) (ci := 11) (C := RX11) K (mX11_sign l G F xx s24 (65535 : Int32) hc27) tw_5_13 tw_1_12 tw_5_12 tw_0_6 tw_5_10 cdX11_sign ⟨Nat.le_of_ble_eq_true rfl, Nat.le_of_ble_eq_true rfl⟩ hP hD hS [0] rfl rfl rfl rfl rfl rfl rfl hl.1 (Nat.le_of_ble_eq_true rfl) ⟨Nat.zero_le _, Nat.zero_le _⟩ dX11_readPart_293 (fun H locs hP hD hS => ?_)
            have hP : va_P G.1 vwCl (List.flatten [wX G xx r26.2]) H := hP
            have hD : va_D A (List.flatten [wX G xx r26.2]) := hD
            obtain ⟨ck28, h⟩ := ck h
            obtain ⟨s29, e30, h⟩ := nm_ex h
            refine va_iast hx hb hG.1 hP hD hS 3 0 rfl rfl ck28 dX11_readPart_296 (fun H locs hP hD hS => ?_)
            have hP : va_P G.1 vwCl (List.flatten [wX G xx s29]) H := by rw [e30]; exact hP
            have hD : va_D A (List.flatten [wX G xx s29]) := by rw [e30]; exact hD
            refine lv_aload_n hx hb dX11_readPart_297 rfl (lv_at hl 1 rfl) ?_
            refine va_get (D := G.1) (cl := vwCl) (tys := tysG G) (ci := 11) (v := .ref (xx 3)) (C := RX11) (T := TX11) (N := 37) hx hb hts iX11 hown hG.1 hP 0 rfl rfl 2 (Nat.le_of_ble_eq_true rfl) (hts _ tw_4_99) (fun _ h9 => h9) rfl dX11_readPart_298 ?_
            refine lv_iload_n hx hb dX11_readPart_301 rfl (lv_at hl 0 rfl) ?_
            refine lv_iconst (v := 3) hx hb dX11_readPart_302 li_3 ?_
            refine lv_iadd hx hb dX11_readPart_303 ?_
            refine lv_aload_n hx hb dX11_readPart_304 rfl (lv_at hl 1 rfl) ?_
            refine lv_aload_n hx hb dX11_readPart_305 rfl (lv_at hl 1 rfl) ?_
            refine va_get (D := G.1) (cl := vwCl) (tys := tysG G) (ci := 11) (v := .ref (xx 3)) (C := RX11) (T := TX11) (N := 37) hx hb hts iX11 hown hG.1 hP 0 rfl rfl 2 (Nat.le_of_ble_eq_true rfl) (hts _ tw_4_99) (fun _ h9 => h9) rfl dX11_readPart_306 ?_
            refine lv_iload_n hx hb dX11_readPart_309 rfl (lv_at hl 0 rfl) ?_
            refine lv_iconst (v := 2) hx hb dX11_readPart_310 li_2 ?_
            refine lv_iadd hx hb dX11_readPart_311 ?_
            refine va_iald hx hb hG.1 hP 3 0 rfl rfl ck28 dX11_readPart_312 ?_
            refine lv_bipush (v := 15) hx hb dX11_readPart_313 lb_15 ?_
            obtain ⟨r31, hc32, h⟩ := bd_ex h
            refine sl_S K (mX11_bits l G F (s29.2.1 2 (((4 : Int32) * (s10.1 6)) + (2 : Int32)).toNatClampNeg) (15 : Int32) hc32) tw_5_20 tw_1_12 tw_5_19 tw_5_18 cdX11_bits ⟨Nat.le_of_ble_eq_true rfl, Nat.le_of_ble_eq_true rfl⟩ hP hD hS [] rfl rfl rfl rfl hl.1 (Nat.le_of_ble_eq_true rfl) ⟨Nat.zero_le _, Nat.zero_le _⟩ dX11_readPart_315 (fun H locs hP hD hS => ?_)
            have hP : va_P G.1 vwCl (List.flatten [wX G xx s29]) H := hP
            have hD : va_D A (List.flatten [wX G xx s29]) := hD
            obtain ⟨r33, hc34, h⟩ := bd_ex h
            refine sl_V (q0 := 0) (ci := 11) (C := RX11) K (mX11_sign l G F xx s29 r31 hc34) tw_5_13 tw_1_12 tw_5_12 tw_0_6 tw_5_10 cdX11_sign ⟨Nat.le_of_ble_eq_true rfl, Nat.le_of_ble_eq_true rfl⟩ hP hD hS [0] rfl rfl rfl rfl rfl rfl rfl hl.1 (Nat.le_of_ble_eq_true rfl) ⟨Nat.zero_le _, Nat.zero_le _⟩ dX11_readPart_318 (fun H locs hP hD hS => ?_)
            have hP : va_P G.1 vwCl (List.flatten [wX G xx r33.2]) H := hP
            have hD : va_D A (List.flatten [wX G xx r33.2]) := hD
            obtain ⟨ck35, h⟩ := ck h
            obtain ⟨s36, e37, h⟩ := nm_ex h
            refine va_iast hx hb hG.1 hP hD hS 3 0 rfl rfl ck35 dX11_readPart_321 (fun H locs hP hD hS => ?_)
            have hP : va_P G.1 vwCl (List.flatten [wX G xx s36]) H := by rw [e37]; exact hP
            have hD : va_D A (List.flatten [wX G xx s36]) := by rw [e37]; exact hD
            refine lv_aload_n hx hb dX11_readPart_322 rfl (lv_at hl 1 rfl) ?_
            refine lv_dup hx hb dX11_readPart_323 rfl ?_
            refine va_get (D := G.1) (cl := vwCl) (tys := tysG G) (ci := 11) (v := .int (s36.1 6)) (C := RX11) (T := TX11) (N := 37) hx hb hts iX11 hown hG.1 hP 0 rfl rfl 6 (Nat.le_of_ble_eq_true rfl) (hts _ tw_4_103) (fun _ h9 => h9) rfl dX11_readPart_324 ?_
            refine lv_iconst (v := 1) hx hb dX11_readPart_327 li_1 ?_
            refine lv_iadd hx hb dX11_readPart_328 ?_
            obtain ⟨s38, e39, h⟩ := nm_ex h
            refine va_put (D := G.1) (cl := vwCl) (tys := tysG G) (ci := 11) (v := .int ((s36.1 6) + (1 : Int32))) (ty := .int) (C := RX11) (T := TX11) (N := 37) hx hb hts iX11 tyX11 tyX11_ok nmX11 hown hG.1 hP hD hS 0 rfl rfl 6 (Nat.le_of_ble_eq_true rfl) (hts _ tw_4_103) (fun _ h9 => h9) rfl (by decide +kernel) rfl rfl (Nat.le_of_ble_eq_true rfl) dX11_readPart_329 (fun H locs hP hD hS => ?_)
            have hP : va_P G.1 vwCl (List.flatten [wX G xx s38]) H := by rw [e39]; exact hP
            have hD : va_D A (List.flatten [wX G xx s38]) := by rw [e39]; exact hD
            refine lv_goto (tgt := 339) hx hb dX11_readPart_332 (by decide) ?_
            cases h
            exact rt_v K hP hD hS dX11_readPart_339
      · have h := if_t c3 h
        refine lv_aload_n hx hb dX11_readPart_152 rfl (lv_at hl 0 rfl) ?_
        obtain ⟨r40, hc41, h⟩ := bd_ex h
        refine sl_V (q0 := 0) (ci := 11) (C := RX11) K (mX11_untold l G F xx σxx hc41) tw_5_24 tw_1_12 tw_5_23 tw_0_7 tw_5_21 cdX11_untold ⟨Nat.le_of_ble_eq_true rfl, Nat.le_of_ble_eq_true rfl⟩ hP hD hS [0] rfl rfl rfl rfl rfl rfl rfl hl.1 (Nat.le_of_ble_eq_true rfl) ⟨Nat.zero_le _, Nat.zero_le _⟩ dX11_readPart_153 (fun H locs hP hD hS => ?_)
        have hP : va_P G.1 vwCl (List.flatten [wX G xx σxx]) H := hP
        have hD : va_D A (List.flatten [wX G xx σxx]) := hD
        refine lv_if_eq (tgt := 213) hx hb dX11_readPart_156 (by decide) (fun c42 => ?_) (fun c42 => ?_)
        · have h := if_t c42 h
          refine lv_iload_n hx hb dX11_readPart_213 rfl (lv_at hl 1 rfl) ?_
          refine lv_bipush (v := 79) hx hb dX11_readPart_214 lb_79 ?_
          refine lv_icmp_ne (tgt := 335) hx hb dX11_readPart_216 (by decide) (fun c43 => ?_) (fun c43 => ?_)
          · have h := if_f c43 h
            refine lv_aload_n hx hb dX11_readPart_335 rfl (lv_at hl 0 rfl) ?_
            obtain ⟨r44, hc45, h⟩ := bd_ex h
            refine sl_V (q0 := 0) (ci := 11) (C := RX11) K (mX11_fail l G F xx σxx hc45) tw_5_5 tw_1_12 tw_5_4 tw_0_4 tw_5_2 cdX11_fail ⟨Nat.le_of_ble_eq_true rfl, Nat.le_of_ble_eq_true rfl⟩ hP hD hS [0] rfl rfl rfl rfl rfl rfl rfl hl.1 (Nat.le_of_ble_eq_true rfl) ⟨Nat.zero_le _, Nat.zero_le _⟩ dX11_readPart_336 (fun H locs hP hD hS => ?_)
            have hP : va_P G.1 vwCl (List.flatten [wX G xx r44]) H := hP
            have hD : va_D A (List.flatten [wX G xx r44]) := hD
            cases h
            exact rt_v K hP hD hS dX11_readPart_339
          · have h := if_t c43 h
            refine lv_aload_n hx hb dX11_readPart_219 rfl (lv_at hl 0 rfl) ?_
            refine va_get (D := G.1) (cl := vwCl) (tys := tysG G) (ci := 11) (v := .int (σxx.1 6)) (C := RX11) (T := TX11) (N := 37) hx hb hts iX11 hown hG.1 hP 0 rfl rfl 6 (Nat.le_of_ble_eq_true rfl) (hts _ tw_4_103) (fun _ h9 => h9) rfl dX11_readPart_220 ?_
            refine lv_iconst (v := 4) hx hb dX11_readPart_223 li_4 ?_
            refine lv_icmp_ge (tgt := 335) hx hb dX11_readPart_224 (by decide) (fun c46 => ?_) (fun c46 => ?_)
            · have h := if_t c46 h
              refine lv_aload_n hx hb dX11_readPart_335 rfl (lv_at hl 0 rfl) ?_
              obtain ⟨r47, hc48, h⟩ := bd_ex h
              refine sl_V (q0 := 0) (ci := 11) (C := RX11) K (mX11_fail l G F xx σxx hc48) tw_5_5 tw_1_12 tw_5_4 tw_0_4 tw_5_2 cdX11_fail ⟨Nat.le_of_ble_eq_true rfl, Nat.le_of_ble_eq_true rfl⟩ hP hD hS [0] rfl rfl rfl rfl rfl rfl rfl hl.1 (Nat.le_of_ble_eq_true rfl) ⟨Nat.zero_le _, Nat.zero_le _⟩ dX11_readPart_336 (fun H locs hP hD hS => ?_)
              have hP : va_P G.1 vwCl (List.flatten [wX G xx r47]) H := hP
              have hD : va_D A (List.flatten [wX G xx r47]) := hD
              cases h
              exact rt_v K hP hD hS dX11_readPart_339
            · have h := if_f c46 h
              refine lv_aload_n hx hb dX11_readPart_227 rfl (lv_at hl 0 rfl) ?_
              refine lv_dup hx hb dX11_readPart_228 rfl ?_
              refine va_get (D := G.1) (cl := vwCl) (tys := tysG G) (ci := 11) (v := .int (σxx.1 17)) (C := RX11) (T := TX11) (N := 37) hx hb hts iX11 hown hG.1 hP 0 rfl rfl 17 (Nat.le_of_ble_eq_true rfl) (hts _ tw_4_114) (fun _ h9 => h9) rfl dX11_readPart_229 ?_
              refine lv_iconst (v := 1) hx hb dX11_readPart_232 li_1 ?_
              refine lv_iadd hx hb dX11_readPart_233 ?_
              obtain ⟨s49, e50, h⟩ := nm_ex h
              refine va_put (D := G.1) (cl := vwCl) (tys := tysG G) (ci := 11) (v := .int ((σxx.1 17) + (1 : Int32))) (ty := .int) (C := RX11) (T := TX11) (N := 37) hx hb hts iX11 tyX11 tyX11_ok nmX11 hown hG.1 hP hD hS 0 rfl rfl 17 (Nat.le_of_ble_eq_true rfl) (hts _ tw_4_114) (fun _ h9 => h9) rfl (by decide +kernel) rfl rfl (Nat.le_of_ble_eq_true rfl) dX11_readPart_234 (fun H locs hP hD hS => ?_)
              have hP : va_P G.1 vwCl (List.flatten [wX G xx s49]) H := by rw [e50]; exact hP
              have hD : va_D A (List.flatten [wX G xx s49]) := by rw [e50]; exact hD
              refine lv_iconst (v := 4) hx hb dX11_readPart_237 li_4 ?_
              refine lv_aload_n hx hb dX11_readPart_238 rfl (lv_at hl 0 rfl) ?_
              refine va_get (D := G.1) (cl := vwCl) (tys := tysG G) (ci := 11) (v := .int (s49.1 6)) (C := RX11) (T := TX11) (N := 37) hx hb hts iX11 hown hG.1 hP 0 rfl rfl 6 (Nat.le_of_ble_eq_true rfl) (hts _ tw_4_103) (fun _ h9 => h9) rfl dX11_readPart_239 ?_
              refine lv_imul hx hb dX11_readPart_242 ?_
              refine lv_istore_n (lv' := [(2, .int ((4 : Int32) * (s49.1 6))), (0, .ref (xx 0)), (1, .int x1)]) hx hb dX11_readPart_243 rfl hl (Nat.le_of_ble_eq_true rfl) rfl (fun ls hl => ?_)
              refine lv_aload_n hx hb dX11_readPart_244 rfl (lv_at hl 1 rfl) ?_
              refine va_get (D := G.1) (cl := vwCl) (tys := tysG G) (ci := 11) (v := .ref (xx 3)) (C := RX11) (T := TX11) (N := 37) hx hb hts iX11 hown hG.1 hP 0 rfl rfl 2 (Nat.le_of_ble_eq_true rfl) (hts _ tw_4_99) (fun _ h9 => h9) rfl dX11_readPart_245 ?_
              refine lv_iload_n hx hb dX11_readPart_248 rfl (lv_at hl 0 rfl) ?_
              refine lv_aload_n hx hb dX11_readPart_249 rfl (lv_at hl 1 rfl) ?_
              refine lv_iconst (v := 0) hx hb dX11_readPart_250 li_0 ?_
              refine lv_bipush (v := 9) hx hb dX11_readPart_251 lb_9 ?_
              obtain ⟨r51, hc52, h⟩ := bd_ex h
              refine sl_S K (mX11_bits l G F (0 : Int32) (9 : Int32) hc52) tw_5_20 tw_1_12 tw_5_19 tw_5_18 cdX11_bits ⟨Nat.le_of_ble_eq_true rfl, Nat.le_of_ble_eq_true rfl⟩ hP hD hS [] rfl rfl rfl rfl hl.1 (Nat.le_of_ble_eq_true rfl) ⟨Nat.zero_le _, Nat.zero_le _⟩ dX11_readPart_253 (fun H locs hP hD hS => ?_)
              have hP : va_P G.1 vwCl (List.flatten [wX G xx s49]) H := hP
              have hD : va_D A (List.flatten [wX G xx s49]) := hD
              obtain ⟨r53, hc54, h⟩ := bd_ex h
              refine sl_V (q0 := 0) (ci := 11) (C := RX11) K (mX11_sign l G F xx s49 r51 hc54) tw_5_13 tw_1_12 tw_5_12 tw_0_6 tw_5_10 cdX11_sign ⟨Nat.le_of_ble_eq_true rfl, Nat.le_of_ble_eq_true rfl⟩ hP hD hS [0] rfl rfl rfl rfl rfl rfl rfl hl.1 (Nat.le_of_ble_eq_true rfl) ⟨Nat.zero_le _, Nat.zero_le _⟩ dX11_readPart_256 (fun H locs hP hD hS => ?_)
              have hP : va_P G.1 vwCl (List.flatten [wX G xx r53.2]) H := hP
              have hD : va_D A (List.flatten [wX G xx r53.2]) := hD
              obtain ⟨ck55, h⟩ := ck h
              obtain ⟨s56, e57, h⟩ := nm_ex h
              refine va_iast hx hb hG.1 hP hD hS 3 0 rfl rfl ck55 dX11_readPart_259 (fun H locs hP hD hS => ?_)
              have hP : va_P G.1 vwCl (List.flatten [wX G xx s56]) H := by rw [e57]; exact hP
              have hD : va_D A (List.flatten [wX G xx s56]) := by rw [e57]; exact hD
              refine lv_aload_n hx hb dX11_readPart_260 rfl (lv_at hl 1 rfl) ?_
              refine va_get (D := G.1) (cl := vwCl) (tys := tysG G) (ci := 11) (v := .ref (xx 3)) (C := RX11) (T := TX11) (N := 37) hx hb hts iX11 hown hG.1 hP 0 rfl rfl 2 (Nat.le_of_ble_eq_true rfl) (hts _ tw_4_99) (fun _ h9 => h9) rfl dX11_readPart_261 ?_
              refine lv_iload_n hx hb dX11_readPart_264 rfl (lv_at hl 0 rfl) ?_
              refine lv_iconst (v := 1) hx hb dX11_readPart_265 li_1 ?_
              refine lv_iadd hx hb dX11_readPart_266 ?_
              refine lv_aload_n hx hb dX11_readPart_267 rfl (lv_at hl 1 rfl) ?_
              refine lv_aload_n hx hb dX11_readPart_268 rfl (lv_at hl 1 rfl) ?_
              refine va_get (D := G.1) (cl := vwCl) (tys := tysG G) (ci := 11) (v := .ref (xx 3)) (C := RX11) (T := TX11) (N := 37) hx hb hts iX11 hown hG.1 hP 0 rfl rfl 2 (Nat.le_of_ble_eq_true rfl) (hts _ tw_4_99) (fun _ h9 => h9) rfl dX11_readPart_269 ?_
              refine lv_iload_n hx hb dX11_readPart_272 rfl (lv_at hl 0 rfl) ?_
              refine va_iald hx hb hG.1 hP 3 0 rfl rfl ck55 dX11_readPart_273 ?_
              refine lv_bipush (v := 9) hx hb dX11_readPart_274 lb_9 ?_
              obtain ⟨r58, hc59, h⟩ := bd_ex h
              refine sl_S K (mX11_bits l G F (s56.2.1 2 ((4 : Int32) * (s49.1 6)).toNatClampNeg) (9 : Int32) hc59) tw_5_20 tw_1_12 tw_5_19 tw_5_18 cdX11_bits ⟨Nat.le_of_ble_eq_true rfl, Nat.le_of_ble_eq_true rfl⟩ hP hD hS [] rfl rfl rfl rfl hl.1 (Nat.le_of_ble_eq_true rfl) ⟨Nat.zero_le _, Nat.zero_le _⟩ dX11_readPart_276 (fun H locs hP hD hS => ?_)
              have hP : va_P G.1 vwCl (List.flatten [wX G xx s56]) H := hP
              have hD : va_D A (List.flatten [wX G xx s56]) := hD
              obtain ⟨r60, hc61, h⟩ := bd_ex h
              refine sl_V (q0 := 0) (ci := 11) (C := RX11) K (mX11_sign l G F xx s56 r58 hc61) tw_5_13 tw_1_12 tw_5_12 tw_0_6 tw_5_10 cdX11_sign ⟨Nat.le_of_ble_eq_true rfl, Nat.le_of_ble_eq_true rfl⟩ hP hD hS [0] rfl rfl rfl rfl rfl rfl rfl hl.1 (Nat.le_of_ble_eq_true rfl) ⟨Nat.zero_le _, Nat.zero_le _⟩ dX11_readPart_279 (fun H locs hP hD hS => ?_)
              have hP : va_P G.1 vwCl (List.flatten [wX G xx r60.2]) H := hP
              have hD : va_D A (List.flatten [wX G xx r60.2]) := hD
              obtain ⟨ck62, h⟩ := ck h
              obtain ⟨s63, e64, h⟩ := nm_ex h
              refine va_iast hx hb hG.1 hP hD hS 3 0 rfl rfl ck62 dX11_readPart_282 (fun H locs hP hD hS => ?_)
              have hP : va_P G.1 vwCl (List.flatten [wX G xx s63]) H := by rw [e64]; exact hP
              have hD : va_D A (List.flatten [wX G xx s63]) := by rw [e64]; exact hD
              refine lv_aload_n hx hb dX11_readPart_283 rfl (lv_at hl 1 rfl) ?_
              refine va_get (D := G.1) (cl := vwCl) (tys := tysG G) (ci := 11) (v := .ref (xx 3)) (C := RX11) (T := TX11) (N := 37) hx hb hts iX11 hown hG.1 hP 0 rfl rfl 2 (Nat.le_of_ble_eq_true rfl) (hts _ tw_4_99) (fun _ h9 => h9) rfl dX11_readPart_284 ?_
              refine lv_iload_n hx hb dX11_readPart_287 rfl (lv_at hl 0 rfl) ?_
              refine lv_iconst (v := 2) hx hb dX11_readPart_288 li_2 ?_
              refine lv_iadd hx hb dX11_readPart_289 ?_
              refine lv_aload_n hx hb dX11_readPart_290 rfl (lv_at hl 1 rfl) ?_
              refine lv_ldc (v := 65535) hx hb hown (hts _ tw_5_25) dX11_readPart_291 ?_
              obtain ⟨r65, hc66, h⟩ := bd_ex h
              refine sl_V (q0 := 0) (ci := 11) (C := RX11) K (mX11_sign l G F xx s63 (65535 : Int32) hc66) tw_5_13 tw_1_12 tw_5_12 tw_0_6 tw_5_10 cdX11_sign ⟨Nat.le_of_ble_eq_true rfl, Nat.le_of_ble_eq_true rfl⟩ hP hD hS [0] rfl rfl rfl rfl rfl rfl rfl hl.1 (Nat.le_of_ble_eq_true rfl) ⟨Nat.zero_le _, Nat.zero_le _⟩ dX11_readPart_293 (fun H locs hP hD hS => ?_)
              have hP : va_P G.1 vwCl (List.flatten [wX G xx r65.2]) H := hP
              have hD : va_D A (List.flatten [wX G xx r65.2]) := hD
              obtain ⟨ck67, h⟩ := ck h
              obtain ⟨s68, e69, h⟩ := nm_ex h
              refine va_iast hx hb hG.1 hP hD hS 3 0 rfl rfl ck67 dX11_readPart_296 (fun H locs hP hD hS => ?_)
              have hP : va_P G.1 vwCl (List.flatten [wX G xx s68]) H := by rw [e69]; exact hP
              have hD : va_D A (List.flatten [wX G xx s68]) := by rw [e69]; exact hD
              refine lv_aload_n hx hb dX11_readPart_297 rfl (lv_at hl 1 rfl) ?_
              refine va_get (D := G.1) (cl := vwCl) (tys := tysG G) (ci := 11) (v := .ref (xx 3)) (C := RX11) (T := TX11) (N := 37) hx hb hts iX11 hown hG.1 hP 0 rfl rfl 2 (Nat.le_of_ble_eq_true rfl) (hts _ tw_4_99) (fun _ h9 => h9) rfl dX11_readPart_298 ?_
              refine lv_iload_n hx hb dX11_readPart_301 rfl (lv_at hl 0 rfl) ?_
              refine lv_iconst (v := 3) hx hb dX11_readPart_302 li_3 ?_
              refine lv_iadd hx hb dX11_readPart_303 ?_
              refine lv_aload_n hx hb dX11_readPart_304 rfl (lv_at hl 1 rfl) ?_
              refine lv_aload_n hx hb dX11_readPart_305 rfl (lv_at hl 1 rfl) ?_
              refine va_get (D := G.1) (cl := vwCl) (tys := tysG G) (ci := 11) (v := .ref (xx 3)) (C := RX11) (T := TX11) (N := 37) hx hb hts iX11 hown hG.1 hP 0 rfl rfl 2 (Nat.le_of_ble_eq_true rfl) (hts _ tw_4_99) (fun _ h9 => h9) rfl dX11_readPart_306 ?_
              refine lv_iload_n hx hb dX11_readPart_309 rfl (lv_at hl 0 rfl) ?_
              refine lv_iconst (v := 2) hx hb dX11_readPart_310 li_2 ?_
              refine lv_iadd hx hb dX11_readPart_311 ?_
              refine va_iald hx hb hG.1 hP 3 0 rfl rfl ck67 dX11_readPart_312 ?_
              refine lv_bipush (v := 15) hx hb dX11_readPart_313 lb_15 ?_
              obtain ⟨r70, hc71, h⟩ := bd_ex h
              refine sl_S K (mX11_bits l G F (s68.2.1 2 (((4 : Int32) * (s49.1 6)) + (2 : Int32)).toNatClampNeg) (15 : Int32) hc71) tw_5_20 tw_1_12 tw_5_19 tw_5_18 cdX11_bits ⟨Nat.le_of_ble_eq_true rfl, Nat.le_of_ble_eq_true rfl⟩ hP hD hS [] rfl rfl rfl rfl hl.1 (Nat.le_of_ble_eq_true rfl) ⟨Nat.zero_le _, Nat.zero_le _⟩ dX11_readPart_315 (fun H locs hP hD hS => ?_)
              have hP : va_P G.1 vwCl (List.flatten [wX G xx s68]) H := hP
              have hD : va_D A (List.flatten [wX G xx s68]) := hD
              obtain ⟨r72, hc73, h⟩ := bd_ex h
              refine sl_V (q0 := 0) (ci := 11) (C := RX11) K (mX11_sign l G F xx s68 r70 hc73) tw_5_13 tw_1_12 tw_5_12 tw_0_6 tw_5_10 cdX11_sign ⟨Nat.le_of_ble_eq_true rfl, Nat.le_of_ble_eq_true rfl⟩ hP hD hS [0] rfl rfl rfl rfl rfl rfl rfl hl.1 (Nat.le_of_ble_eq_true rfl) ⟨Nat.zero_le _, Nat.zero_le _⟩ dX11_readPart_318 (fun H locs hP hD hS => ?_)
              have hP : va_P G.1 vwCl (List.flatten [wX G xx r72.2]) H := hP
              have hD : va_D A (List.flatten [wX G xx r72.2]) := hD
              obtain ⟨ck74, h⟩ := ck h
              obtain ⟨s75, e76, h⟩ := nm_ex h
              refine va_iast hx hb hG.1 hP hD hS 3 0 rfl rfl ck74 dX11_readPart_321 (fun H locs hP hD hS => ?_)
              have hP : va_P G.1 vwCl (List.flatten [wX G xx s75]) H := by rw [e76]; exact hP
              have hD : va_D A (List.flatten [wX G xx s75]) := by rw [e76]; exact hD
              refine lv_aload_n hx hb dX11_readPart_322 rfl (lv_at hl 1 rfl) ?_
              refine lv_dup hx hb dX11_readPart_323 rfl ?_
              refine va_get (D := G.1) (cl := vwCl) (tys := tysG G) (ci := 11) (v := .int (s75.1 6)) (C := RX11) (T := TX11) (N := 37) hx hb hts iX11 hown hG.1 hP 0 rfl rfl 6 (Nat.le_of_ble_eq_true rfl) (hts _ tw_4_103) (fun _ h9 => h9) rfl dX11_readPart_324 ?_
              refine lv_iconst (v := 1) hx hb dX11_readPart_327 li_1 ?_
              refine lv_iadd hx hb dX11_readPart_328 ?_
              obtain ⟨s77, e78, h⟩ := nm_ex h
              refine va_put (D := G.1) (cl := vwCl) (tys := tysG G) (ci := 11) (v := .int ((s75.1 6) + (1 : Int32))) (ty := .int) (C := RX11) (T := TX11) (N := 37) hx hb hts iX11 tyX11 tyX11_ok nmX11 hown hG.1 hP hD hS 0 rfl rfl 6 (Nat.le_of_ble_eq_true rfl) (hts _ tw_4_103) (fun _ h9 => h9) rfl (by decide +kernel) rfl rfl (Nat.le_of_ble_eq_true rfl) dX11_readPart_329 (fun H locs hP hD hS => ?_)
              have hP : va_P G.1 vwCl (List.flatten [wX G xx s77]) H := by rw [e78]; exact hP
              have hD : va_D A (List.flatten [wX G xx s77]) := by rw [e78]; exact hD
              refine lv_goto (tgt := 339) hx hb dX11_readPart_332 (by decide) ?_
              cases h
              exact rt_v K hP hD hS dX11_readPart_339
        · have h := if_f c42 h
          refine lv_aload_n hx hb dX11_readPart_159 rfl (lv_at hl 0 rfl) ?_
          refine lv_dup hx hb dX11_readPart_160 rfl ?_
          refine va_get (D := G.1) (cl := vwCl) (tys := tysG G) (ci := 11) (v := .int (σxx.1 17)) (C := RX11) (T := TX11) (N := 37) hx hb hts iX11 hown hG.1 hP 0 rfl rfl 17 (Nat.le_of_ble_eq_true rfl) (hts _ tw_4_114) (fun _ h9 => h9) rfl dX11_readPart_161 ?_
          refine lv_iconst (v := 1) hx hb dX11_readPart_164 li_1 ?_
          refine lv_iadd hx hb dX11_readPart_165 ?_
          obtain ⟨s79, e80, h⟩ := nm_ex h
          refine va_put (D := G.1) (cl := vwCl) (tys := tysG G) (ci := 11) (v := .int ((σxx.1 17) + (1 : Int32))) (ty := .int) (C := RX11) (T := TX11) (N := 37) hx hb hts iX11 tyX11 tyX11_ok nmX11 hown hG.1 hP hD hS 0 rfl rfl 17 (Nat.le_of_ble_eq_true rfl) (hts _ tw_4_114) (fun _ h9 => h9) rfl (by decide +kernel) rfl rfl (Nat.le_of_ble_eq_true rfl) dX11_readPart_166 (fun H locs hP hD hS => ?_)
          have hP : va_P G.1 vwCl (List.flatten [wX G xx s79]) H := by rw [e80]; exact hP
          have hD : va_D A (List.flatten [wX G xx s79]) := by rw [e80]; exact hD
          refine lv_aload_n hx hb dX11_readPart_169 rfl (lv_at hl 0 rfl) ?_
          refine lv_aload_n hx hb dX11_readPart_170 rfl (lv_at hl 0 rfl) ?_
          obtain ⟨r81, hc82, h⟩ := bd_ex h
          refine sl_V (q0 := 0) (ci := 11) (C := RX11) K (mX11_untold l G F xx s79 hc82) tw_5_24 tw_1_12 tw_5_23 tw_0_7 tw_5_21 cdX11_untold ⟨Nat.le_of_ble_eq_true rfl, Nat.le_of_ble_eq_true rfl⟩ hP hD hS [0] rfl rfl rfl rfl rfl rfl rfl hl.1 (Nat.le_of_ble_eq_true rfl) ⟨Nat.zero_le _, Nat.zero_le _⟩ dX11_readPart_171 (fun H locs hP hD hS => ?_)
          have hP : va_P G.1 vwCl (List.flatten [wX G xx s79]) H := hP
          have hD : va_D A (List.flatten [wX G xx s79]) := hD
          obtain ⟨r83, hc84, h⟩ := bd_ex h
          refine sl_V (q0 := 0) (ci := 11) (C := RX11) K (mX11_sign l G F xx s79 r81 hc84) tw_5_13 tw_1_12 tw_5_12 tw_0_6 tw_5_10 cdX11_sign ⟨Nat.le_of_ble_eq_true rfl, Nat.le_of_ble_eq_true rfl⟩ hP hD hS [0] rfl rfl rfl rfl rfl rfl rfl hl.1 (Nat.le_of_ble_eq_true rfl) ⟨Nat.zero_le _, Nat.zero_le _⟩ dX11_readPart_174 (fun H locs hP hD hS => ?_)
          have hP : va_P G.1 vwCl (List.flatten [wX G xx r83.2]) H := hP
          have hD : va_D A (List.flatten [wX G xx r83.2]) := hD
          refine lv_istore_n (lv' := [(2, .int r83.1), (0, .ref (xx 0)), (1, .int x1)]) hx hb dX11_readPart_177 rfl hl (Nat.le_of_ble_eq_true rfl) rfl (fun ls hl => ?_)
          refine lv_aload_n hx hb dX11_readPart_178 rfl (lv_at hl 1 rfl) ?_
          refine lv_ldc (v := 65535) hx hb hown (hts _ tw_5_25) dX11_readPart_179 ?_
          obtain ⟨r85, hc86, h⟩ := bd_ex h
          refine sl_V (q0 := 0) (ci := 11) (C := RX11) K (mX11_sign l G F xx r83.2 (65535 : Int32) hc86) tw_5_13 tw_1_12 tw_5_12 tw_0_6 tw_5_10 cdX11_sign ⟨Nat.le_of_ble_eq_true rfl, Nat.le_of_ble_eq_true rfl⟩ hP hD hS [0] rfl rfl rfl rfl rfl rfl rfl hl.1 (Nat.le_of_ble_eq_true rfl) ⟨Nat.zero_le _, Nat.zero_le _⟩ dX11_readPart_181 (fun H locs hP hD hS => ?_)
          have hP : va_P G.1 vwCl (List.flatten [wX G xx r85.2]) H := hP
          have hD : va_D A (List.flatten [wX G xx r85.2]) := hD
          refine lv_istore_n (lv' := [(3, .int r85.1), (2, .int r83.1), (0, .ref (xx 0)), (1, .int x1)]) hx hb dX11_readPart_184 rfl hl (Nat.le_of_ble_eq_true rfl) rfl (fun ls hl => ?_)
          refine lv_aload_n hx hb dX11_readPart_185 rfl (lv_at hl 2 rfl) ?_
          refine va_get (D := G.1) (cl := vwCl) (tys := tysG G) (ci := 11) (v := .ref (xx 4)) (C := RX11) (T := TX11) (N := 37) hx hb hts iX11 hown hG.1 hP 0 rfl rfl 3 (Nat.le_of_ble_eq_true rfl) (hts _ tw_4_100) (fun _ h9 => h9) rfl dX11_readPart_186 ?_
          refine lv_iload_n hx hb dX11_readPart_189 rfl (lv_at hl 1 rfl) ?_
          refine lv_aload_n hx hb dX11_readPart_190 rfl (lv_at hl 2 rfl) ?_
          refine va_get (D := G.1) (cl := vwCl) (tys := tysG G) (ci := 11) (v := .int (r85.2.1 18)) (C := RX11) (T := TX11) (N := 37) hx hb hts iX11 hown hG.1 hP 0 rfl rfl 18 (Nat.le_of_ble_eq_true rfl) (hts _ tw_4_115) (fun _ h9 => h9) rfl dX11_readPart_191 ?_
          refine lv_bipush (v := -9) hx hb dX11_readPart_194 lb_m9 ?_
          refine lv_icmp_ne (tgt := 203) hx hb dX11_readPart_196 (by decide) (fun c87 => ?_) (fun c87 => ?_)
          · have h := if_f c87 h
            refine lv_aload_n hx hb dX11_readPart_203 rfl (lv_at hl 2 rfl) ?_
            refine va_get (D := G.1) (cl := vwCl) (tys := tysG G) (ci := 11) (v := .ref (xx 4)) (C := RX11) (T := TX11) (N := 37) hx hb hts iX11 hown hG.1 hP 0 rfl rfl 3 (Nat.le_of_ble_eq_true rfl) (hts _ tw_4_100) (fun _ h9 => h9) rfl dX11_readPart_204 ?_
            refine lv_iload_n hx hb dX11_readPart_207 rfl (lv_at hl 1 rfl) ?_
            obtain ⟨ck88, h⟩ := ck h
            refine va_iald hx hb hG.1 hP 4 0 rfl rfl ck88 dX11_readPart_208 ?_
            obtain ⟨s89, e90, h⟩ := nm_ex h
            refine va_iast hx hb hG.1 hP hD hS 4 0 rfl rfl ck88 dX11_readPart_209 (fun H locs hP hD hS => ?_)
            have hP : va_P G.1 vwCl (List.flatten [wX G xx s89]) H := by rw [e90]; exact hP
            have hD : va_D A (List.flatten [wX G xx s89]) := by rw [e90]; exact hD
            refine lv_goto (tgt := 339) hx hb dX11_readPart_210 (by decide) ?_
            cases h
            exact rt_v K hP hD hS dX11_readPart_339
          · have h := if_t c87 h
            refine lv_iload_n hx hb dX11_readPart_199 rfl (lv_at hl 0 rfl) ?_
            refine lv_goto (tgt := 209) hx hb dX11_readPart_200 (by decide) ?_
            obtain ⟨ck91, h⟩ := ck h
            obtain ⟨s92, e93, h⟩ := nm_ex h
            refine va_iast hx hb hG.1 hP hD hS 4 0 rfl rfl ck91 dX11_readPart_209 (fun H locs hP hD hS => ?_)
            have hP : va_P G.1 vwCl (List.flatten [wX G xx s92]) H := by rw [e93]; exact hP
            have hD : va_D A (List.flatten [wX G xx s92]) := by rw [e93]; exact hD
            refine lv_goto (tgt := 339) hx hb dX11_readPart_210 (by decide) ?_
            cases h
            exact rt_v K hP hD hS dX11_readPart_339
    · have h := if_t c2 h
      refine lv_aload_n hx hb dX11_readPart_28 rfl (lv_at hl 0 rfl) ?_
      refine va_get (D := G.1) (cl := vwCl) (tys := tysG G) (ci := 11) (v := .int (σxx.1 5)) (C := RX11) (T := TX11) (N := 37) hx hb hts iX11 hown hG.1 hP 0 rfl rfl 5 (Nat.le_of_ble_eq_true rfl) (hts _ tw_4_102) (fun _ h9 => h9) rfl dX11_readPart_29 ?_
      refine lv_iconst (v := 3) hx hb dX11_readPart_32 li_3 ?_
      refine lv_icmp_ge (tgt := 146) hx hb dX11_readPart_33 (by decide) (fun c94 => ?_) (fun c94 => ?_)
      · have h := if_t c94 h
        refine lv_iload_n hx hb dX11_readPart_146 rfl (lv_at hl 1 rfl) ?_
        refine lv_bipush (v := 76) hx hb dX11_readPart_147 lb_76 ?_
        refine lv_icmp_ne (tgt := 213) hx hb dX11_readPart_149 (by decide) (fun c95 => ?_) (fun c95 => ?_)
        · have h := if_f c95 h
          refine lv_iload_n hx hb dX11_readPart_213 rfl (lv_at hl 1 rfl) ?_
          refine lv_bipush (v := 79) hx hb dX11_readPart_214 lb_79 ?_
          refine lv_icmp_ne (tgt := 335) hx hb dX11_readPart_216 (by decide) (fun c96 => ?_) (fun c96 => ?_)
          · have h := if_f c96 h
            refine lv_aload_n hx hb dX11_readPart_335 rfl (lv_at hl 0 rfl) ?_
            obtain ⟨r97, hc98, h⟩ := bd_ex h
            refine sl_V (q0 := 0) (ci := 11) (C := RX11) K (mX11_fail l G F xx σxx hc98) tw_5_5 tw_1_12 tw_5_4 tw_0_4 tw_5_2 cdX11_fail ⟨Nat.le_of_ble_eq_true rfl, Nat.le_of_ble_eq_true rfl⟩ hP hD hS [0] rfl rfl rfl rfl rfl rfl rfl hl.1 (Nat.le_of_ble_eq_true rfl) ⟨Nat.zero_le _, Nat.zero_le _⟩ dX11_readPart_336 (fun H locs hP hD hS => ?_)
            have hP : va_P G.1 vwCl (List.flatten [wX G xx r97]) H := hP
            have hD : va_D A (List.flatten [wX G xx r97]) := hD
            cases h
            exact rt_v K hP hD hS dX11_readPart_339
          · have h := if_t c96 h
            refine lv_aload_n hx hb dX11_readPart_219 rfl (lv_at hl 0 rfl) ?_
            refine va_get (D := G.1) (cl := vwCl) (tys := tysG G) (ci := 11) (v := .int (σxx.1 6)) (C := RX11) (T := TX11) (N := 37) hx hb hts iX11 hown hG.1 hP 0 rfl rfl 6 (Nat.le_of_ble_eq_true rfl) (hts _ tw_4_103) (fun _ h9 => h9) rfl dX11_readPart_220 ?_
            refine lv_iconst (v := 4) hx hb dX11_readPart_223 li_4 ?_
            refine lv_icmp_ge (tgt := 335) hx hb dX11_readPart_224 (by decide) (fun c99 => ?_) (fun c99 => ?_)
            · have h := if_t c99 h
              refine lv_aload_n hx hb dX11_readPart_335 rfl (lv_at hl 0 rfl) ?_
              obtain ⟨r100, hc101, h⟩ := bd_ex h
              refine sl_V (q0 := 0) (ci := 11) (C := RX11) K (mX11_fail l G F xx σxx hc101) tw_5_5 tw_1_12 tw_5_4 tw_0_4 tw_5_2 cdX11_fail ⟨Nat.le_of_ble_eq_true rfl, Nat.le_of_ble_eq_true rfl⟩ hP hD hS [0] rfl rfl rfl rfl rfl rfl rfl hl.1 (Nat.le_of_ble_eq_true rfl) ⟨Nat.zero_le _, Nat.zero_le _⟩ dX11_readPart_336 (fun H locs hP hD hS => ?_)
              have hP : va_P G.1 vwCl (List.flatten [wX G xx r100]) H := hP
              have hD : va_D A (List.flatten [wX G xx r100]) := hD
              cases h
              exact rt_v K hP hD hS dX11_readPart_339
            · have h := if_f c99 h
              refine lv_aload_n hx hb dX11_readPart_227 rfl (lv_at hl 0 rfl) ?_
              refine lv_dup hx hb dX11_readPart_228 rfl ?_
              refine va_get (D := G.1) (cl := vwCl) (tys := tysG G) (ci := 11) (v := .int (σxx.1 17)) (C := RX11) (T := TX11) (N := 37) hx hb hts iX11 hown hG.1 hP 0 rfl rfl 17 (Nat.le_of_ble_eq_true rfl) (hts _ tw_4_114) (fun _ h9 => h9) rfl dX11_readPart_229 ?_
              refine lv_iconst (v := 1) hx hb dX11_readPart_232 li_1 ?_
              refine lv_iadd hx hb dX11_readPart_233 ?_
              obtain ⟨s102, e103, h⟩ := nm_ex h
              refine va_put (D := G.1) (cl := vwCl) (tys := tysG G) (ci := 11) (v := .int ((σxx.1 17) + (1 : Int32))) (ty := .int) (C := RX11) (T := TX11) (N := 37) hx hb hts iX11 tyX11 tyX11_ok nmX11 hown hG.1 hP hD hS 0 rfl rfl 17 (Nat.le_of_ble_eq_true rfl) (hts _ tw_4_114) (fun _ h9 => h9) rfl (by decide +kernel) rfl rfl (Nat.le_of_ble_eq_true rfl) dX11_readPart_234 (fun H locs hP hD hS => ?_)
              have hP : va_P G.1 vwCl (List.flatten [wX G xx s102]) H := by rw [e103]; exact hP
              have hD : va_D A (List.flatten [wX G xx s102]) := by rw [e103]; exact hD
              refine lv_iconst (v := 4) hx hb dX11_readPart_237 li_4 ?_
              refine lv_aload_n hx hb dX11_readPart_238 rfl (lv_at hl 0 rfl) ?_
              refine va_get (D := G.1) (cl := vwCl) (tys := tysG G) (ci := 11) (v := .int (s102.1 6)) (C := RX11) (T := TX11) (N := 37) hx hb hts iX11 hown hG.1 hP 0 rfl rfl 6 (Nat.le_of_ble_eq_true rfl) (hts _ tw_4_103) (fun _ h9 => h9) rfl dX11_readPart_239 ?_
              refine lv_imul hx hb dX11_readPart_242 ?_
              refine lv_istore_n (lv' := [(2, .int ((4 : Int32) * (s102.1 6))), (0, .ref (xx 0)), (1, .int x1)]) hx hb dX11_readPart_243 rfl hl (Nat.le_of_ble_eq_true rfl) rfl (fun ls hl => ?_)
              refine lv_aload_n hx hb dX11_readPart_244 rfl (lv_at hl 1 rfl) ?_
              refine va_get (D := G.1) (cl := vwCl) (tys := tysG G) (ci := 11) (v := .ref (xx 3)) (C := RX11) (T := TX11) (N := 37) hx hb hts iX11 hown hG.1 hP 0 rfl rfl 2 (Nat.le_of_ble_eq_true rfl) (hts _ tw_4_99) (fun _ h9 => h9) rfl dX11_readPart_245 ?_
              refine lv_iload_n hx hb dX11_readPart_248 rfl (lv_at hl 0 rfl) ?_
              refine lv_aload_n hx hb dX11_readPart_249 rfl (lv_at hl 1 rfl) ?_
              refine lv_iconst (v := 0) hx hb dX11_readPart_250 li_0 ?_
              refine lv_bipush (v := 9) hx hb dX11_readPart_251 lb_9 ?_
              obtain ⟨r104, hc105, h⟩ := bd_ex h
              refine sl_S K (mX11_bits l G F (0 : Int32) (9 : Int32) hc105) tw_5_20 tw_1_12 tw_5_19 tw_5_18 cdX11_bits ⟨Nat.le_of_ble_eq_true rfl, Nat.le_of_ble_eq_true rfl⟩ hP hD hS [] rfl rfl rfl rfl hl.1 (Nat.le_of_ble_eq_true rfl) ⟨Nat.zero_le _, Nat.zero_le _⟩ dX11_readPart_253 (fun H locs hP hD hS => ?_)
              have hP : va_P G.1 vwCl (List.flatten [wX G xx s102]) H := hP
              have hD : va_D A (List.flatten [wX G xx s102]) := hD
              obtain ⟨r106, hc107, h⟩ := bd_ex h
              refine sl_V (q0 := 0) (ci := 11) (C := RX11) K (mX11_sign l G F xx s102 r104 hc107) tw_5_13 tw_1_12 tw_5_12 tw_0_6 tw_5_10 cdX11_sign ⟨Nat.le_of_ble_eq_true rfl, Nat.le_of_ble_eq_true rfl⟩ hP hD hS [0] rfl rfl rfl rfl rfl rfl rfl hl.1 (Nat.le_of_ble_eq_true rfl) ⟨Nat.zero_le _, Nat.zero_le _⟩ dX11_readPart_256 (fun H locs hP hD hS => ?_)
              have hP : va_P G.1 vwCl (List.flatten [wX G xx r106.2]) H := hP
              have hD : va_D A (List.flatten [wX G xx r106.2]) := hD
              obtain ⟨ck108, h⟩ := ck h
              obtain ⟨s109, e110, h⟩ := nm_ex h
              refine va_iast hx hb hG.1 hP hD hS 3 0 rfl rfl ck108 dX11_readPart_259 (fun H locs hP hD hS => ?_)
              have hP : va_P G.1 vwCl (List.flatten [wX G xx s109]) H := by rw [e110]; exact hP
              have hD : va_D A (List.flatten [wX G xx s109]) := by rw [e110]; exact hD
              refine lv_aload_n hx hb dX11_readPart_260 rfl (lv_at hl 1 rfl) ?_
              refine va_get (D := G.1) (cl := vwCl) (tys := tysG G) (ci := 11) (v := .ref (xx 3)) (C := RX11) (T := TX11) (N := 37) hx hb hts iX11 hown hG.1 hP 0 rfl rfl 2 (Nat.le_of_ble_eq_true rfl) (hts _ tw_4_99) (fun _ h9 => h9) rfl dX11_readPart_261 ?_
              refine lv_iload_n hx hb dX11_readPart_264 rfl (lv_at hl 0 rfl) ?_
              refine lv_iconst (v := 1) hx hb dX11_readPart_265 li_1 ?_
              refine lv_iadd hx hb dX11_readPart_266 ?_
              refine lv_aload_n hx hb dX11_readPart_267 rfl (lv_at hl 1 rfl) ?_
              refine lv_aload_n hx hb dX11_readPart_268 rfl (lv_at hl 1 rfl) ?_
              refine va_get (D := G.1) (cl := vwCl) (tys := tysG G) (ci := 11) (v := .ref (xx 3)) (C := RX11) (T := TX11) (N := 37) hx hb hts iX11 hown hG.1 hP 0 rfl rfl 2 (Nat.le_of_ble_eq_true rfl) (hts _ tw_4_99) (fun _ h9 => h9) rfl dX11_readPart_269 ?_
              refine lv_iload_n hx hb dX11_readPart_272 rfl (lv_at hl 0 rfl) ?_
              refine va_iald hx hb hG.1 hP 3 0 rfl rfl ck108 dX11_readPart_273 ?_
              refine lv_bipush (v := 9) hx hb dX11_readPart_274 lb_9 ?_
              obtain ⟨r111, hc112, h⟩ := bd_ex h
              refine sl_S K (mX11_bits l G F (s109.2.1 2 ((4 : Int32) * (s102.1 6)).toNatClampNeg) (9 : Int32) hc112) tw_5_20 tw_1_12 tw_5_19 tw_5_18 cdX11_bits ⟨Nat.le_of_ble_eq_true rfl, Nat.le_of_ble_eq_true rfl⟩ hP hD hS [] rfl rfl rfl rfl hl.1 (Nat.le_of_ble_eq_true rfl) ⟨Nat.zero_le _, Nat.zero_le _⟩ dX11_readPart_276 (fun H locs hP hD hS => ?_)
              have hP : va_P G.1 vwCl (List.flatten [wX G xx s109]) H := hP
              have hD : va_D A (List.flatten [wX G xx s109]) := hD
              obtain ⟨r113, hc114, h⟩ := bd_ex h
              refine sl_V (q0 := 0) (ci := 11) (C := RX11) K (mX11_sign l G F xx s109 r111 hc114) tw_5_13 tw_1_12 tw_5_12 tw_0_6 tw_5_10 cdX11_sign ⟨Nat.le_of_ble_eq_true rfl, Nat.le_of_ble_eq_true rfl⟩ hP hD hS [0] rfl rfl rfl rfl rfl rfl rfl hl.1 (Nat.le_of_ble_eq_true rfl) ⟨Nat.zero_le _, Nat.zero_le _⟩ dX11_readPart_279 (fun H locs hP hD hS => ?_)
              have hP : va_P G.1 vwCl (List.flatten [wX G xx r113.2]) H := hP
              have hD : va_D A (List.flatten [wX G xx r113.2]) := hD
              obtain ⟨ck115, h⟩ := ck h
              obtain ⟨s116, e117, h⟩ := nm_ex h
              refine va_iast hx hb hG.1 hP hD hS 3 0 rfl rfl ck115 dX11_readPart_282 (fun H locs hP hD hS => ?_)
              have hP : va_P G.1 vwCl (List.flatten [wX G xx s116]) H := by rw [e117]; exact hP
              have hD : va_D A (List.flatten [wX G xx s116]) := by rw [e117]; exact hD
              refine lv_aload_n hx hb dX11_readPart_283 rfl (lv_at hl 1 rfl) ?_
              refine va_get (D := G.1) (cl := vwCl) (tys := tysG G) (ci := 11) (v := .ref (xx 3)) (C := RX11) (T := TX11) (N := 37) hx hb hts iX11 hown hG.1 hP 0 rfl rfl 2 (Nat.le_of_ble_eq_true rfl) (hts _ tw_4_99) (fun _ h9 => h9) rfl dX11_readPart_284 ?_
              refine lv_iload_n hx hb dX11_readPart_287 rfl (lv_at hl 0 rfl) ?_
              refine lv_iconst (v := 2) hx hb dX11_readPart_288 li_2 ?_
              refine lv_iadd hx hb dX11_readPart_289 ?_
              refine lv_aload_n hx hb dX11_readPart_290 rfl (lv_at hl 1 rfl) ?_
              refine lv_ldc (v := 65535) hx hb hown (hts _ tw_5_25) dX11_readPart_291 ?_
              obtain ⟨r118, hc119, h⟩ := bd_ex h
              refine sl_V (q0 := 0) (ci := 11) (C := RX11) K (mX11_sign l G F xx s116 (65535 : Int32) hc119) tw_5_13 tw_1_12 tw_5_12 tw_0_6 tw_5_10 cdX11_sign ⟨Nat.le_of_ble_eq_true rfl, Nat.le_of_ble_eq_true rfl⟩ hP hD hS [0] rfl rfl rfl rfl rfl rfl rfl hl.1 (Nat.le_of_ble_eq_true rfl) ⟨Nat.zero_le _, Nat.zero_le _⟩ dX11_readPart_293 (fun H locs hP hD hS => ?_)
              have hP : va_P G.1 vwCl (List.flatten [wX G xx r118.2]) H := hP
              have hD : va_D A (List.flatten [wX G xx r118.2]) := hD
              obtain ⟨ck120, h⟩ := ck h
              obtain ⟨s121, e122, h⟩ := nm_ex h
              refine va_iast hx hb hG.1 hP hD hS 3 0 rfl rfl ck120 dX11_readPart_296 (fun H locs hP hD hS => ?_)
              have hP : va_P G.1 vwCl (List.flatten [wX G xx s121]) H := by rw [e122]; exact hP
              have hD : va_D A (List.flatten [wX G xx s121]) := by rw [e122]; exact hD
              refine lv_aload_n hx hb dX11_readPart_297 rfl (lv_at hl 1 rfl) ?_
              refine va_get (D := G.1) (cl := vwCl) (tys := tysG G) (ci := 11) (v := .ref (xx 3)) (C := RX11) (T := TX11) (N := 37) hx hb hts iX11 hown hG.1 hP 0 rfl rfl 2 (Nat.le_of_ble_eq_true rfl) (hts _ tw_4_99) (fun _ h9 => h9) rfl dX11_readPart_298 ?_
              refine lv_iload_n hx hb dX11_readPart_301 rfl (lv_at hl 0 rfl) ?_
              refine lv_iconst (v := 3) hx hb dX11_readPart_302 li_3 ?_
              refine lv_iadd hx hb dX11_readPart_303 ?_
              refine lv_aload_n hx hb dX11_readPart_304 rfl (lv_at hl 1 rfl) ?_
              refine lv_aload_n hx hb dX11_readPart_305 rfl (lv_at hl 1 rfl) ?_
              refine va_get (D := G.1) (cl := vwCl) (tys := tysG G) (ci := 11) (v := .ref (xx 3)) (C := RX11) (T := TX11) (N := 37) hx hb hts iX11 hown hG.1 hP 0 rfl rfl 2 (Nat.le_of_ble_eq_true rfl) (hts _ tw_4_99) (fun _ h9 => h9) rfl dX11_readPart_306 ?_
              refine lv_iload_n hx hb dX11_readPart_309 rfl (lv_at hl 0 rfl) ?_
              refine lv_iconst (v := 2) hx hb dX11_readPart_310 li_2 ?_
              refine lv_iadd hx hb dX11_readPart_311 ?_
              refine va_iald hx hb hG.1 hP 3 0 rfl rfl ck120 dX11_readPart_312 ?_
              refine lv_bipush (v := 15) hx hb dX11_readPart_313 lb_15 ?_
              obtain ⟨r123, hc124, h⟩ := bd_ex h
              refine sl_S K (mX11_bits l G F (s121.2.1 2 (((4 : Int32) * (s102.1 6)) + (2 : Int32)).toNatClampNeg) (15 : Int32) hc124) tw_5_20 tw_1_12 tw_5_19 tw_5_18 cdX11_bits ⟨Nat.le_of_ble_eq_true rfl, Nat.le_of_ble_eq_true rfl⟩ hP hD hS [] rfl rfl rfl rfl hl.1 (Nat.le_of_ble_eq_true rfl) ⟨Nat.zero_le _, Nat.zero_le _⟩ dX11_readPart_315 (fun H locs hP hD hS => ?_)
              have hP : va_P G.1 vwCl (List.flatten [wX G xx s121]) H := hP
              have hD : va_D A (List.flatten [wX G xx s121]) := hD
              obtain ⟨r125, hc126, h⟩ := bd_ex h
              refine sl_V (q0 := 0) (ci := 11) (C := RX11) K (mX11_sign l G F xx s121 r123 hc126) tw_5_13 tw_1_12 tw_5_12 tw_0_6 tw_5_10 cdX11_sign ⟨Nat.le_of_ble_eq_true rfl, Nat.le_of_ble_eq_true rfl⟩ hP hD hS [0] rfl rfl rfl rfl rfl rfl rfl hl.1 (Nat.le_of_ble_eq_true rfl) ⟨Nat.zero_le _, Nat.zero_le _⟩ dX11_readPart_318 (fun H locs hP hD hS => ?_)
              have hP : va_P G.1 vwCl (List.flatten [wX G xx r125.2]) H := hP
              have hD : va_D A (List.flatten [wX G xx r125.2]) := hD
              obtain ⟨ck127, h⟩ := ck h
              obtain ⟨s128, e129, h⟩ := nm_ex h
              refine va_iast hx hb hG.1 hP hD hS 3 0 rfl rfl ck127 dX11_readPart_321 (fun H locs hP hD hS => ?_)
              have hP : va_P G.1 vwCl (List.flatten [wX G xx s128]) H := by rw [e129]; exact hP
              have hD : va_D A (List.flatten [wX G xx s128]) := by rw [e129]; exact hD
              refine lv_aload_n hx hb dX11_readPart_322 rfl (lv_at hl 1 rfl) ?_
              refine lv_dup hx hb dX11_readPart_323 rfl ?_
              refine va_get (D := G.1) (cl := vwCl) (tys := tysG G) (ci := 11) (v := .int (s128.1 6)) (C := RX11) (T := TX11) (N := 37) hx hb hts iX11 hown hG.1 hP 0 rfl rfl 6 (Nat.le_of_ble_eq_true rfl) (hts _ tw_4_103) (fun _ h9 => h9) rfl dX11_readPart_324 ?_
              refine lv_iconst (v := 1) hx hb dX11_readPart_327 li_1 ?_
              refine lv_iadd hx hb dX11_readPart_328 ?_
              obtain ⟨s130, e131, h⟩ := nm_ex h
              refine va_put (D := G.1) (cl := vwCl) (tys := tysG G) (ci := 11) (v := .int ((s128.1 6) + (1 : Int32))) (ty := .int) (C := RX11) (T := TX11) (N := 37) hx hb hts iX11 tyX11 tyX11_ok nmX11 hown hG.1 hP hD hS 0 rfl rfl 6 (Nat.le_of_ble_eq_true rfl) (hts _ tw_4_103) (fun _ h9 => h9) rfl (by decide +kernel) rfl rfl (Nat.le_of_ble_eq_true rfl) dX11_readPart_329 (fun H locs hP hD hS => ?_)
              have hP : va_P G.1 vwCl (List.flatten [wX G xx s130]) H := by rw [e131]; exact hP
              have hD : va_D A (List.flatten [wX G xx s130]) := by rw [e131]; exact hD
              refine lv_goto (tgt := 339) hx hb dX11_readPart_332 (by decide) ?_
              cases h
              exact rt_v K hP hD hS dX11_readPart_339
        · have h := if_t c95 h
          refine lv_aload_n hx hb dX11_readPart_152 rfl (lv_at hl 0 rfl) ?_
          obtain ⟨r132, hc133, h⟩ := bd_ex h
          refine sl_V (q0 := 0) (ci := 11) (C := RX11) K (mX11_untold l G F xx σxx hc133) tw_5_24 tw_1_12 tw_5_23 tw_0_7 tw_5_21 cdX11_untold ⟨Nat.le_of_ble_eq_true rfl, Nat.le_of_ble_eq_true rfl⟩ hP hD hS [0] rfl rfl rfl rfl rfl rfl rfl hl.1 (Nat.le_of_ble_eq_true rfl) ⟨Nat.zero_le _, Nat.zero_le _⟩ dX11_readPart_153 (fun H locs hP hD hS => ?_)
          have hP : va_P G.1 vwCl (List.flatten [wX G xx σxx]) H := hP
          have hD : va_D A (List.flatten [wX G xx σxx]) := hD
          refine lv_if_eq (tgt := 213) hx hb dX11_readPart_156 (by decide) (fun c134 => ?_) (fun c134 => ?_)
          · have h := if_t c134 h
            refine lv_iload_n hx hb dX11_readPart_213 rfl (lv_at hl 1 rfl) ?_
            refine lv_bipush (v := 79) hx hb dX11_readPart_214 lb_79 ?_
            refine lv_icmp_ne (tgt := 335) hx hb dX11_readPart_216 (by decide) (fun c135 => ?_) (fun c135 => ?_)
            · have h := if_f c135 h
              refine lv_aload_n hx hb dX11_readPart_335 rfl (lv_at hl 0 rfl) ?_
              obtain ⟨r136, hc137, h⟩ := bd_ex h
              refine sl_V (q0 := 0) (ci := 11) (C := RX11) K (mX11_fail l G F xx σxx hc137) tw_5_5 tw_1_12 tw_5_4 tw_0_4 tw_5_2 cdX11_fail ⟨Nat.le_of_ble_eq_true rfl, Nat.le_of_ble_eq_true rfl⟩ hP hD hS [0] rfl rfl rfl rfl rfl rfl rfl hl.1 (Nat.le_of_ble_eq_true rfl) ⟨Nat.zero_le _, Nat.zero_le _⟩ dX11_readPart_336 (fun H locs hP hD hS => ?_)
              have hP : va_P G.1 vwCl (List.flatten [wX G xx r136]) H := hP
              have hD : va_D A (List.flatten [wX G xx r136]) := hD
              cases h
              exact rt_v K hP hD hS dX11_readPart_339
            · have h := if_t c135 h
              refine lv_aload_n hx hb dX11_readPart_219 rfl (lv_at hl 0 rfl) ?_
              refine va_get (D := G.1) (cl := vwCl) (tys := tysG G) (ci := 11) (v := .int (σxx.1 6)) (C := RX11) (T := TX11) (N := 37) hx hb hts iX11 hown hG.1 hP 0 rfl rfl 6 (Nat.le_of_ble_eq_true rfl) (hts _ tw_4_103) (fun _ h9 => h9) rfl dX11_readPart_220 ?_
              refine lv_iconst (v := 4) hx hb dX11_readPart_223 li_4 ?_
              refine lv_icmp_ge (tgt := 335) hx hb dX11_readPart_224 (by decide) (fun c138 => ?_) (fun c138 => ?_)
              · have h := if_t c138 h
                refine lv_aload_n hx hb dX11_readPart_335 rfl (lv_at hl 0 rfl) ?_
                obtain ⟨r139, hc140, h⟩ := bd_ex h
                refine sl_V (q0 := 0) (ci := 11) (C := RX11) K (mX11_fail l G F xx σxx hc140) tw_5_5 tw_1_12 tw_5_4 tw_0_4 tw_5_2 cdX11_fail ⟨Nat.le_of_ble_eq_true rfl, Nat.le_of_ble_eq_true rfl⟩ hP hD hS [0] rfl rfl rfl rfl rfl rfl rfl hl.1 (Nat.le_of_ble_eq_true rfl) ⟨Nat.zero_le _, Nat.zero_le _⟩ dX11_readPart_336 (fun H locs hP hD hS => ?_)
                have hP : va_P G.1 vwCl (List.flatten [wX G xx r139]) H := hP
                have hD : va_D A (List.flatten [wX G xx r139]) := hD
                cases h
                exact rt_v K hP hD hS dX11_readPart_339
              · have h := if_f c138 h
                refine lv_aload_n hx hb dX11_readPart_227 rfl (lv_at hl 0 rfl) ?_
                refine lv_dup hx hb dX11_readPart_228 rfl ?_
                refine va_get (D := G.1) (cl := vwCl) (tys := tysG G) (ci := 11) (v := .int (σxx.1 17)) (C := RX11) (T := TX11) (N := 37) hx hb hts iX11 hown hG.1 hP 0 rfl rfl 17 (Nat.le_of_ble_eq_true rfl) (hts _ tw_4_114) (fun _ h9 => h9) rfl dX11_readPart_229 ?_
                refine lv_iconst (v := 1) hx hb dX11_readPart_232 li_1 ?_
                refine lv_iadd hx hb dX11_readPart_233 ?_
                obtain ⟨s141, e142, h⟩ := nm_ex h
                refine va_put (D := G.1) (cl := vwCl) (tys := tysG G) (ci := 11) (v := .int ((σxx.1 17) + (1 : Int32))) (ty := .int) (C := RX11) (T := TX11) (N := 37) hx hb hts iX11 tyX11 tyX11_ok nmX11 hown hG.1 hP hD hS 0 rfl rfl 17 (Nat.le_of_ble_eq_true rfl) (hts _ tw_4_114) (fun _ h9 => h9) rfl (by decide +kernel) rfl rfl (Nat.le_of_ble_eq_true rfl) dX11_readPart_234 (fun H locs hP hD hS => ?_)
                have hP : va_P G.1 vwCl (List.flatten [wX G xx s141]) H := by rw [e142]; exact hP
                have hD : va_D A (List.flatten [wX G xx s141]) := by rw [e142]; exact hD
                refine lv_iconst (v := 4) hx hb dX11_readPart_237 li_4 ?_
                refine lv_aload_n hx hb dX11_readPart_238 rfl (lv_at hl 0 rfl) ?_
                refine va_get (D := G.1) (cl := vwCl) (tys := tysG G) (ci := 11) (v := .int (s141.1 6)) (C := RX11) (T := TX11) (N := 37) hx hb hts iX11 hown hG.1 hP 0 rfl rfl 6 (Nat.le_of_ble_eq_true rfl) (hts _ tw_4_103) (fun _ h9 => h9) rfl dX11_readPart_239 ?_
                refine lv_imul hx hb dX11_readPart_242 ?_
                refine lv_istore_n (lv' := [(2, .int ((4 : Int32) * (s141.1 6))), (0, .ref (xx 0)), (1, .int x1)]) hx hb dX11_readPart_243 rfl hl (Nat.le_of_ble_eq_true rfl) rfl (fun ls hl => ?_)
                refine lv_aload_n hx hb dX11_readPart_244 rfl (lv_at hl 1 rfl) ?_
                refine va_get (D := G.1) (cl := vwCl) (tys := tysG G) (ci := 11) (v := .ref (xx 3)) (C := RX11) (T := TX11) (N := 37) hx hb hts iX11 hown hG.1 hP 0 rfl rfl 2 (Nat.le_of_ble_eq_true rfl) (hts _ tw_4_99) (fun _ h9 => h9) rfl dX11_readPart_245 ?_
                refine lv_iload_n hx hb dX11_readPart_248 rfl (lv_at hl 0 rfl) ?_
                refine lv_aload_n hx hb dX11_readPart_249 rfl (lv_at hl 1 rfl) ?_
                refine lv_iconst (v := 0) hx hb dX11_readPart_250 li_0 ?_
                refine lv_bipush (v := 9) hx hb dX11_readPart_251 lb_9 ?_
                obtain ⟨r143, hc144, h⟩ := bd_ex h
                refine sl_S K (mX11_bits l G F (0 : Int32) (9 : Int32) hc144) tw_5_20 tw_1_12 tw_5_19 tw_5_18 cdX11_bits ⟨Nat.le_of_ble_eq_true rfl, Nat.le_of_ble_eq_true rfl⟩ hP hD hS [] rfl rfl rfl rfl hl.1 (Nat.le_of_ble_eq_true rfl) ⟨Nat.zero_le _, Nat.zero_le _⟩ dX11_readPart_253 (fun H locs hP hD hS => ?_)
                have hP : va_P G.1 vwCl (List.flatten [wX G xx s141]) H := hP
                have hD : va_D A (List.flatten [wX G xx s141]) := hD
                obtain ⟨r145, hc146, h⟩ := bd_ex h
                refine sl_V (q0 := 0) (ci := 11) (C := RX11) K (mX11_sign l G F xx s141 r143 hc146) tw_5_13 tw_1_12 tw_5_12 tw_0_6 tw_5_10 cdX11_sign ⟨Nat.le_of_ble_eq_true rfl, Nat.le_of_ble_eq_true rfl⟩ hP hD hS [0] rfl rfl rfl rfl rfl rfl rfl hl.1 (Nat.le_of_ble_eq_true rfl) ⟨Nat.zero_le _, Nat.zero_le _⟩ dX11_readPart_256 (fun H locs hP hD hS => ?_)
                have hP : va_P G.1 vwCl (List.flatten [wX G xx r145.2]) H := hP
                have hD : va_D A (List.flatten [wX G xx r145.2]) := hD
                obtain ⟨ck147, h⟩ := ck h
                obtain ⟨s148, e149, h⟩ := nm_ex h
                refine va_iast hx hb hG.1 hP hD hS 3 0 rfl rfl ck147 dX11_readPart_259 (fun H locs hP hD hS => ?_)
                have hP : va_P G.1 vwCl (List.flatten [wX G xx s148]) H := by rw [e149]; exact hP
                have hD : va_D A (List.flatten [wX G xx s148]) := by rw [e149]; exact hD
                refine lv_aload_n hx hb dX11_readPart_260 rfl (lv_at hl 1 rfl) ?_
                refine va_get (D := G.1) (cl := vwCl) (tys := tysG G) (ci := 11) (v := .ref (xx 3)) (C := RX11) (T := TX11) (N := 37) hx hb hts iX11 hown hG.1 hP 0 rfl rfl 2 (Nat.le_of_ble_eq_true rfl) (hts _ tw_4_99) (fun _ h9 => h9) rfl dX11_readPart_261 ?_
                refine lv_iload_n hx hb dX11_readPart_264 rfl (lv_at hl 0 rfl) ?_
                refine lv_iconst (v := 1) hx hb dX11_readPart_265 li_1 ?_
                refine lv_iadd hx hb dX11_readPart_266 ?_
                refine lv_aload_n hx hb dX11_readPart_267 rfl (lv_at hl 1 rfl) ?_
                refine lv_aload_n hx hb dX11_readPart_268 rfl (lv_at hl 1 rfl) ?_
                refine va_get (D := G.1) (cl := vwCl) (tys := tysG G) (ci := 11) (v := .ref (xx 3)) (C := RX11) (T := TX11) (N := 37) hx hb hts iX11 hown hG.1 hP 0 rfl rfl 2 (Nat.le_of_ble_eq_true rfl) (hts _ tw_4_99) (fun _ h9 => h9) rfl dX11_readPart_269 ?_
                refine lv_iload_n hx hb dX11_readPart_272 rfl (lv_at hl 0 rfl) ?_
                refine va_iald hx hb hG.1 hP 3 0 rfl rfl ck147 dX11_readPart_273 ?_
                refine lv_bipush (v := 9) hx hb dX11_readPart_274 lb_9 ?_
                obtain ⟨r150, hc151, h⟩ := bd_ex h
                refine sl_S K (mX11_bits l G F (s148.2.1 2 ((4 : Int32) * (s141.1 6)).toNatClampNeg) (9 : Int32) hc151) tw_5_20 tw_1_12 tw_5_19 tw_5_18 cdX11_bits ⟨Nat.le_of_ble_eq_true rfl, Nat.le_of_ble_eq_true rfl⟩ hP hD hS [] rfl rfl rfl rfl hl.1 (Nat.le_of_ble_eq_true rfl) ⟨Nat.zero_le _, Nat.zero_le _⟩ dX11_readPart_276 (fun H locs hP hD hS => ?_)
                have hP : va_P G.1 vwCl (List.flatten [wX G xx s148]) H := hP
                have hD : va_D A (List.flatten [wX G xx s148]) := hD
                obtain ⟨r152, hc153, h⟩ := bd_ex h
                refine sl_V (q0 := 0) (ci := 11) (C := RX11) K (mX11_sign l G F xx s148 r150 hc153) tw_5_13 tw_1_12 tw_5_12 tw_0_6 tw_5_10 cdX11_sign ⟨Nat.le_of_ble_eq_true rfl, Nat.le_of_ble_eq_true rfl⟩ hP hD hS [0] rfl rfl rfl rfl rfl rfl rfl hl.1 (Nat.le_of_ble_eq_true rfl) ⟨Nat.zero_le _, Nat.zero_le _⟩ dX11_readPart_279 (fun H locs hP hD hS => ?_)
                have hP : va_P G.1 vwCl (List.flatten [wX G xx r152.2]) H := hP
                have hD : va_D A (List.flatten [wX G xx r152.2]) := hD
                obtain ⟨ck154, h⟩ := ck h
                obtain ⟨s155, e156, h⟩ := nm_ex h
                refine va_iast hx hb hG.1 hP hD hS 3 0 rfl rfl ck154 dX11_readPart_282 (fun H locs hP hD hS => ?_)
                have hP : va_P G.1 vwCl (List.flatten [wX G xx s155]) H := by rw [e156]; exact hP
                have hD : va_D A (List.flatten [wX G xx s155]) := by rw [e156]; exact hD
                refine lv_aload_n hx hb dX11_readPart_283 rfl (lv_at hl 1 rfl) ?_
                refine va_get (D := G.1) (cl := vwCl) (tys := tysG G) (ci := 11) (v := .ref (xx 3)) (C := RX11) (T := TX11) (N := 37) hx hb hts iX11 hown hG.1 hP 0 rfl rfl 2 (Nat.le_of_ble_eq_true rfl) (hts _ tw_4_99) (fun _ h9 => h9) rfl dX11_readPart_284 ?_
                refine lv_iload_n hx hb dX11_readPart_287 rfl (lv_at hl 0 rfl) ?_
                refine lv_iconst (v := 2) hx hb dX11_readPart_288 li_2 ?_
                refine lv_iadd hx hb dX11_readPart_289 ?_
                refine lv_aload_n hx hb dX11_readPart_290 rfl (lv_at hl 1 rfl) ?_
                refine lv_ldc (v := 65535) hx hb hown (hts _ tw_5_25) dX11_readPart_291 ?_
                obtain ⟨r157, hc158, h⟩ := bd_ex h
                refine sl_V (q0 := 0) (ci := 11) (C := RX11) K (mX11_sign l G F xx s155 (65535 : Int32) hc158) tw_5_13 tw_1_12 tw_5_12 tw_0_6 tw_5_10 cdX11_sign ⟨Nat.le_of_ble_eq_true rfl, Nat.le_of_ble_eq_true rfl⟩ hP hD hS [0] rfl rfl rfl rfl rfl rfl rfl hl.1 (Nat.le_of_ble_eq_true rfl) ⟨Nat.zero_le _, Nat.zero_le _⟩ dX11_readPart_293 (fun H locs hP hD hS => ?_)
                have hP : va_P G.1 vwCl (List.flatten [wX G xx r157.2]) H := hP
                have hD : va_D A (List.flatten [wX G xx r157.2]) := hD
                obtain ⟨ck159, h⟩ := ck h
                obtain ⟨s160, e161, h⟩ := nm_ex h
                refine va_iast hx hb hG.1 hP hD hS 3 0 rfl rfl ck159 dX11_readPart_296 (fun H locs hP hD hS => ?_)
                have hP : va_P G.1 vwCl (List.flatten [wX G xx s160]) H := by rw [e161]; exact hP
                have hD : va_D A (List.flatten [wX G xx s160]) := by rw [e161]; exact hD
                refine lv_aload_n hx hb dX11_readPart_297 rfl (lv_at hl 1 rfl) ?_
                refine va_get (D := G.1) (cl := vwCl) (tys := tysG G) (ci := 11) (v := .ref (xx 3)) (C := RX11) (T := TX11) (N := 37) hx hb hts iX11 hown hG.1 hP 0 rfl rfl 2 (Nat.le_of_ble_eq_true rfl) (hts _ tw_4_99) (fun _ h9 => h9) rfl dX11_readPart_298 ?_
                refine lv_iload_n hx hb dX11_readPart_301 rfl (lv_at hl 0 rfl) ?_
                refine lv_iconst (v := 3) hx hb dX11_readPart_302 li_3 ?_
                refine lv_iadd hx hb dX11_readPart_303 ?_
                refine lv_aload_n hx hb dX11_readPart_304 rfl (lv_at hl 1 rfl) ?_
                refine lv_aload_n hx hb dX11_readPart_305 rfl (lv_at hl 1 rfl) ?_
                refine va_get (D := G.1) (cl := vwCl) (tys := tysG G) (ci := 11) (v := .ref (xx 3)) (C := RX11) (T := TX11) (N := 37) hx hb hts iX11 hown hG.1 hP 0 rfl rfl 2 (Nat.le_of_ble_eq_true rfl) (hts _ tw_4_99) (fun _ h9 => h9) rfl dX11_readPart_306 ?_
                refine lv_iload_n hx hb dX11_readPart_309 rfl (lv_at hl 0 rfl) ?_
                refine lv_iconst (v := 2) hx hb dX11_readPart_310 li_2 ?_
                refine lv_iadd hx hb dX11_readPart_311 ?_
                refine va_iald hx hb hG.1 hP 3 0 rfl rfl ck159 dX11_readPart_312 ?_
                refine lv_bipush (v := 15) hx hb dX11_readPart_313 lb_15 ?_
                obtain ⟨r162, hc163, h⟩ := bd_ex h
                refine sl_S K (mX11_bits l G F (s160.2.1 2 (((4 : Int32) * (s141.1 6)) + (2 : Int32)).toNatClampNeg) (15 : Int32) hc163) tw_5_20 tw_1_12 tw_5_19 tw_5_18 cdX11_bits ⟨Nat.le_of_ble_eq_true rfl, Nat.le_of_ble_eq_true rfl⟩ hP hD hS [] rfl rfl rfl rfl hl.1 (Nat.le_of_ble_eq_true rfl) ⟨Nat.zero_le _, Nat.zero_le _⟩ dX11_readPart_315 (fun H locs hP hD hS => ?_)
                have hP : va_P G.1 vwCl (List.flatten [wX G xx s160]) H := hP
                have hD : va_D A (List.flatten [wX G xx s160]) := hD
                obtain ⟨r164, hc165, h⟩ := bd_ex h
                refine sl_V (q0 := 0) (ci := 11) (C := RX11) K (mX11_sign l G F xx s160 r162 hc165) tw_5_13 tw_1_12 tw_5_12 tw_0_6 tw_5_10 cdX11_sign ⟨Nat.le_of_ble_eq_true rfl, Nat.le_of_ble_eq_true rfl⟩ hP hD hS [0] rfl rfl rfl rfl rfl rfl rfl hl.1 (Nat.le_of_ble_eq_true rfl) ⟨Nat.zero_le _, Nat.zero_le _⟩ dX11_readPart_318 (fun H locs hP hD hS => ?_)
                have hP : va_P G.1 vwCl (List.flatten [wX G xx r164.2]) H := hP
                have hD : va_D A (List.flatten [wX G xx r164.2]) := hD
                obtain ⟨ck166, h⟩ := ck h
                obtain ⟨s167, e168, h⟩ := nm_ex h
                refine va_iast hx hb hG.1 hP hD hS 3 0 rfl rfl ck166 dX11_readPart_321 (fun H locs hP hD hS => ?_)
                have hP : va_P G.1 vwCl (List.flatten [wX G xx s167]) H := by rw [e168]; exact hP
                have hD : va_D A (List.flatten [wX G xx s167]) := by rw [e168]; exact hD
                refine lv_aload_n hx hb dX11_readPart_322 rfl (lv_at hl 1 rfl) ?_
                refine lv_dup hx hb dX11_readPart_323 rfl ?_
                refine va_get (D := G.1) (cl := vwCl) (tys := tysG G) (ci := 11) (v := .int (s167.1 6)) (C := RX11) (T := TX11) (N := 37) hx hb hts iX11 hown hG.1 hP 0 rfl rfl 6 (Nat.le_of_ble_eq_true rfl) (hts _ tw_4_103) (fun _ h9 => h9) rfl dX11_readPart_324 ?_
                refine lv_iconst (v := 1) hx hb dX11_readPart_327 li_1 ?_
                refine lv_iadd hx hb dX11_readPart_328 ?_
                obtain ⟨s169, e170, h⟩ := nm_ex h
                refine va_put (D := G.1) (cl := vwCl) (tys := tysG G) (ci := 11) (v := .int ((s167.1 6) + (1 : Int32))) (ty := .int) (C := RX11) (T := TX11) (N := 37) hx hb hts iX11 tyX11 tyX11_ok nmX11 hown hG.1 hP hD hS 0 rfl rfl 6 (Nat.le_of_ble_eq_true rfl) (hts _ tw_4_103) (fun _ h9 => h9) rfl (by decide +kernel) rfl rfl (Nat.le_of_ble_eq_true rfl) dX11_readPart_329 (fun H locs hP hD hS => ?_)
                have hP : va_P G.1 vwCl (List.flatten [wX G xx s169]) H := by rw [e170]; exact hP
                have hD : va_D A (List.flatten [wX G xx s169]) := by rw [e170]; exact hD
                refine lv_goto (tgt := 339) hx hb dX11_readPart_332 (by decide) ?_
                cases h
                exact rt_v K hP hD hS dX11_readPart_339
          · have h := if_f c134 h
            refine lv_aload_n hx hb dX11_readPart_159 rfl (lv_at hl 0 rfl) ?_
            refine lv_dup hx hb dX11_readPart_160 rfl ?_
            refine va_get (D := G.1) (cl := vwCl) (tys := tysG G) (ci := 11) (v := .int (σxx.1 17)) (C := RX11) (T := TX11) (N := 37) hx hb hts iX11 hown hG.1 hP 0 rfl rfl 17 (Nat.le_of_ble_eq_true rfl) (hts _ tw_4_114) (fun _ h9 => h9) rfl dX11_readPart_161 ?_
            refine lv_iconst (v := 1) hx hb dX11_readPart_164 li_1 ?_
            refine lv_iadd hx hb dX11_readPart_165 ?_
            obtain ⟨s171, e172, h⟩ := nm_ex h
            refine va_put (D := G.1) (cl := vwCl) (tys := tysG G) (ci := 11) (v := .int ((σxx.1 17) + (1 : Int32))) (ty := .int) (C := RX11) (T := TX11) (N := 37) hx hb hts iX11 tyX11 tyX11_ok nmX11 hown hG.1 hP hD hS 0 rfl rfl 17 (Nat.le_of_ble_eq_true rfl) (hts _ tw_4_114) (fun _ h9 => h9) rfl (by decide +kernel) rfl rfl (Nat.le_of_ble_eq_true rfl) dX11_readPart_166 (fun H locs hP hD hS => ?_)
            have hP : va_P G.1 vwCl (List.flatten [wX G xx s171]) H := by rw [e172]; exact hP
            have hD : va_D A (List.flatten [wX G xx s171]) := by rw [e172]; exact hD
            refine lv_aload_n hx hb dX11_readPart_169 rfl (lv_at hl 0 rfl) ?_
            refine lv_aload_n hx hb dX11_readPart_170 rfl (lv_at hl 0 rfl) ?_
            obtain ⟨r173, hc174, h⟩ := bd_ex h
            refine sl_V (q0 := 0) (ci := 11) (C := RX11) K (mX11_untold l G F xx s171 hc174) tw_5_24 tw_1_12 tw_5_23 tw_0_7 tw_5_21 cdX11_untold ⟨Nat.le_of_ble_eq_true rfl, Nat.le_of_ble_eq_true rfl⟩ hP hD hS [0] rfl rfl rfl rfl rfl rfl rfl hl.1 (Nat.le_of_ble_eq_true rfl) ⟨Nat.zero_le _, Nat.zero_le _⟩ dX11_readPart_171 (fun H locs hP hD hS => ?_)
            have hP : va_P G.1 vwCl (List.flatten [wX G xx s171]) H := hP
            have hD : va_D A (List.flatten [wX G xx s171]) := hD
            obtain ⟨r175, hc176, h⟩ := bd_ex h
            refine sl_V (q0 := 0) (ci := 11) (C := RX11) K (mX11_sign l G F xx s171 r173 hc176) tw_5_13 tw_1_12 tw_5_12 tw_0_6 tw_5_10 cdX11_sign ⟨Nat.le_of_ble_eq_true rfl, Nat.le_of_ble_eq_true rfl⟩ hP hD hS [0] rfl rfl rfl rfl rfl rfl rfl hl.1 (Nat.le_of_ble_eq_true rfl) ⟨Nat.zero_le _, Nat.zero_le _⟩ dX11_readPart_174 (fun H locs hP hD hS => ?_)
            have hP : va_P G.1 vwCl (List.flatten [wX G xx r175.2]) H := hP
            have hD : va_D A (List.flatten [wX G xx r175.2]) := hD
            refine lv_istore_n (lv' := [(2, .int r175.1), (0, .ref (xx 0)), (1, .int x1)]) hx hb dX11_readPart_177 rfl hl (Nat.le_of_ble_eq_true rfl) rfl (fun ls hl => ?_)
            refine lv_aload_n hx hb dX11_readPart_178 rfl (lv_at hl 1 rfl) ?_
            refine lv_ldc (v := 65535) hx hb hown (hts _ tw_5_25) dX11_readPart_179 ?_
            obtain ⟨r177, hc178, h⟩ := bd_ex h
            refine sl_V (q0 := 0) (ci := 11) (C := RX11) K (mX11_sign l G F xx r175.2 (65535 : Int32) hc178) tw_5_13 tw_1_12 tw_5_12 tw_0_6 tw_5_10 cdX11_sign ⟨Nat.le_of_ble_eq_true rfl, Nat.le_of_ble_eq_true rfl⟩ hP hD hS [0] rfl rfl rfl rfl rfl rfl rfl hl.1 (Nat.le_of_ble_eq_true rfl) ⟨Nat.zero_le _, Nat.zero_le _⟩ dX11_readPart_181 (fun H locs hP hD hS => ?_)
            have hP : va_P G.1 vwCl (List.flatten [wX G xx r177.2]) H := hP
            have hD : va_D A (List.flatten [wX G xx r177.2]) := hD
            refine lv_istore_n (lv' := [(3, .int r177.1), (2, .int r175.1), (0, .ref (xx 0)), (1, .int x1)]) hx hb dX11_readPart_184 rfl hl (Nat.le_of_ble_eq_true rfl) rfl (fun ls hl => ?_)
            refine lv_aload_n hx hb dX11_readPart_185 rfl (lv_at hl 2 rfl) ?_
            refine va_get (D := G.1) (cl := vwCl) (tys := tysG G) (ci := 11) (v := .ref (xx 4)) (C := RX11) (T := TX11) (N := 37) hx hb hts iX11 hown hG.1 hP 0 rfl rfl 3 (Nat.le_of_ble_eq_true rfl) (hts _ tw_4_100) (fun _ h9 => h9) rfl dX11_readPart_186 ?_
            refine lv_iload_n hx hb dX11_readPart_189 rfl (lv_at hl 1 rfl) ?_
            refine lv_aload_n hx hb dX11_readPart_190 rfl (lv_at hl 2 rfl) ?_
            refine va_get (D := G.1) (cl := vwCl) (tys := tysG G) (ci := 11) (v := .int (r177.2.1 18)) (C := RX11) (T := TX11) (N := 37) hx hb hts iX11 hown hG.1 hP 0 rfl rfl 18 (Nat.le_of_ble_eq_true rfl) (hts _ tw_4_115) (fun _ h9 => h9) rfl dX11_readPart_191 ?_
            refine lv_bipush (v := -9) hx hb dX11_readPart_194 lb_m9 ?_
            refine lv_icmp_ne (tgt := 203) hx hb dX11_readPart_196 (by decide) (fun c179 => ?_) (fun c179 => ?_)
            · have h := if_f c179 h
              refine lv_aload_n hx hb dX11_readPart_203 rfl (lv_at hl 2 rfl) ?_
              refine va_get (D := G.1) (cl := vwCl) (tys := tysG G) (ci := 11) (v := .ref (xx 4)) (C := RX11) (T := TX11) (N := 37) hx hb hts iX11 hown hG.1 hP 0 rfl rfl 3 (Nat.le_of_ble_eq_true rfl) (hts _ tw_4_100) (fun _ h9 => h9) rfl dX11_readPart_204 ?_
              refine lv_iload_n hx hb dX11_readPart_207 rfl (lv_at hl 1 rfl) ?_
              obtain ⟨ck180, h⟩ := ck h
              refine va_iald hx hb hG.1 hP 4 0 rfl rfl ck180 dX11_readPart_208 ?_
              obtain ⟨s181, e182, h⟩ := nm_ex h
              refine va_iast hx hb hG.1 hP hD hS 4 0 rfl rfl ck180 dX11_readPart_209 (fun H locs hP hD hS => ?_)
              have hP : va_P G.1 vwCl (List.flatten [wX G xx s181]) H := by rw [e182]; exact hP
              have hD : va_D A (List.flatten [wX G xx s181]) := by rw [e182]; exact hD
              refine lv_goto (tgt := 339) hx hb dX11_readPart_210 (by decide) ?_
              cases h
              exact rt_v K hP hD hS dX11_readPart_339
            · have h := if_t c179 h
              refine lv_iload_n hx hb dX11_readPart_199 rfl (lv_at hl 0 rfl) ?_
              refine lv_goto (tgt := 209) hx hb dX11_readPart_200 (by decide) ?_
              obtain ⟨ck183, h⟩ := ck h
              obtain ⟨s184, e185, h⟩ := nm_ex h
              refine va_iast hx hb hG.1 hP hD hS 4 0 rfl rfl ck183 dX11_readPart_209 (fun H locs hP hD hS => ?_)
              have hP : va_P G.1 vwCl (List.flatten [wX G xx s184]) H := by rw [e185]; exact hP
              have hD : va_D A (List.flatten [wX G xx s184]) := by rw [e185]; exact hD
              refine lv_goto (tgt := 339) hx hb dX11_readPart_210 (by decide) ?_
              cases h
              exact rt_v K hP hD hS dX11_readPart_339
      · have h := if_f c94 h
        refine lv_aload_n hx hb dX11_readPart_36 rfl (lv_at hl 0 rfl) ?_
        refine lv_dup hx hb dX11_readPart_37 rfl ?_
        refine va_get (D := G.1) (cl := vwCl) (tys := tysG G) (ci := 11) (v := .int (σxx.1 17)) (C := RX11) (T := TX11) (N := 37) hx hb hts iX11 hown hG.1 hP 0 rfl rfl 17 (Nat.le_of_ble_eq_true rfl) (hts _ tw_4_114) (fun _ h9 => h9) rfl dX11_readPart_38 ?_
        refine lv_iconst (v := 1) hx hb dX11_readPart_41 li_1 ?_
        refine lv_iadd hx hb dX11_readPart_42 ?_
        obtain ⟨s186, e187, h⟩ := nm_ex h
        refine va_put (D := G.1) (cl := vwCl) (tys := tysG G) (ci := 11) (v := .int ((σxx.1 17) + (1 : Int32))) (ty := .int) (C := RX11) (T := TX11) (N := 37) hx hb hts iX11 tyX11 tyX11_ok nmX11 hown hG.1 hP hD hS 0 rfl rfl 17 (Nat.le_of_ble_eq_true rfl) (hts _ tw_4_114) (fun _ h9 => h9) rfl (by decide +kernel) rfl rfl (Nat.le_of_ble_eq_true rfl) dX11_readPart_43 (fun H locs hP hD hS => ?_)
        have hP : va_P G.1 vwCl (List.flatten [wX G xx s186]) H := by rw [e187]; exact hP
        have hD : va_D A (List.flatten [wX G xx s186]) := by rw [e187]; exact hD
        refine lv_iconst (v := 4) hx hb dX11_readPart_46 li_4 ?_
        refine lv_aload_n hx hb dX11_readPart_47 rfl (lv_at hl 0 rfl) ?_
        refine va_get (D := G.1) (cl := vwCl) (tys := tysG G) (ci := 11) (v := .int (s186.1 5)) (C := RX11) (T := TX11) (N := 37) hx hb hts iX11 hown hG.1 hP 0 rfl rfl 5 (Nat.le_of_ble_eq_true rfl) (hts _ tw_4_102) (fun _ h9 => h9) rfl dX11_readPart_48 ?_
        refine lv_imul hx hb dX11_readPart_51 ?_
        refine lv_istore_n (lv' := [(2, .int ((4 : Int32) * (s186.1 5))), (0, .ref (xx 0)), (1, .int x1)]) hx hb dX11_readPart_52 rfl hl (Nat.le_of_ble_eq_true rfl) rfl (fun ls hl => ?_)
        refine lv_aload_n hx hb dX11_readPart_53 rfl (lv_at hl 1 rfl) ?_
        refine va_get (D := G.1) (cl := vwCl) (tys := tysG G) (ci := 11) (v := .ref (xx 2)) (C := RX11) (T := TX11) (N := 37) hx hb hts iX11 hown hG.1 hP 0 rfl rfl 1 (Nat.le_of_ble_eq_true rfl) (hts _ tw_4_98) (fun _ h9 => h9) rfl dX11_readPart_54 ?_
        refine lv_iload_n hx hb dX11_readPart_57 rfl (lv_at hl 0 rfl) ?_
        refine lv_aload_n hx hb dX11_readPart_58 rfl (lv_at hl 1 rfl) ?_
        refine lv_iconst (v := 0) hx hb dX11_readPart_59 li_0 ?_
        refine lv_bipush (v := 9) hx hb dX11_readPart_60 lb_9 ?_
        obtain ⟨r188, hc189, h⟩ := bd_ex h
        refine sl_S K (mX11_bits l G F (0 : Int32) (9 : Int32) hc189) tw_5_20 tw_1_12 tw_5_19 tw_5_18 cdX11_bits ⟨Nat.le_of_ble_eq_true rfl, Nat.le_of_ble_eq_true rfl⟩ hP hD hS [] rfl rfl rfl rfl hl.1 (Nat.le_of_ble_eq_true rfl) ⟨Nat.zero_le _, Nat.zero_le _⟩ dX11_readPart_62 (fun H locs hP hD hS => ?_)
        have hP : va_P G.1 vwCl (List.flatten [wX G xx s186]) H := hP
        have hD : va_D A (List.flatten [wX G xx s186]) := hD
        obtain ⟨r190, hc191, h⟩ := bd_ex h
        refine sl_V (q0 := 0) (ci := 11) (C := RX11) K (mX11_sign l G F xx s186 r188 hc191) tw_5_13 tw_1_12 tw_5_12 tw_0_6 tw_5_10 cdX11_sign ⟨Nat.le_of_ble_eq_true rfl, Nat.le_of_ble_eq_true rfl⟩ hP hD hS [0] rfl rfl rfl rfl rfl rfl rfl hl.1 (Nat.le_of_ble_eq_true rfl) ⟨Nat.zero_le _, Nat.zero_le _⟩ dX11_readPart_65 (fun H locs hP hD hS => ?_)
        have hP : va_P G.1 vwCl (List.flatten [wX G xx r190.2]) H := hP
        have hD : va_D A (List.flatten [wX G xx r190.2]) := hD
        obtain ⟨ck192, h⟩ := ck h
        obtain ⟨s193, e194, h⟩ := nm_ex h
        refine va_iast hx hb hG.1 hP hD hS 2 0 rfl rfl ck192 dX11_readPart_68 (fun H locs hP hD hS => ?_)
        have hP : va_P G.1 vwCl (List.flatten [wX G xx s193]) H := by rw [e194]; exact hP
        have hD : va_D A (List.flatten [wX G xx s193]) := by rw [e194]; exact hD
        refine lv_aload_n hx hb dX11_readPart_69 rfl (lv_at hl 1 rfl) ?_
        refine va_get (D := G.1) (cl := vwCl) (tys := tysG G) (ci := 11) (v := .ref (xx 2)) (C := RX11) (T := TX11) (N := 37) hx hb hts iX11 hown hG.1 hP 0 rfl rfl 1 (Nat.le_of_ble_eq_true rfl) (hts _ tw_4_98) (fun _ h9 => h9) rfl dX11_readPart_70 ?_
        refine lv_iload_n hx hb dX11_readPart_73 rfl (lv_at hl 0 rfl) ?_
        refine lv_iconst (v := 1) hx hb dX11_readPart_74 li_1 ?_
        refine lv_iadd hx hb dX11_readPart_75 ?_
        refine lv_aload_n hx hb dX11_readPart_76 rfl (lv_at hl 1 rfl) ?_
        refine lv_aload_n hx hb dX11_readPart_77 rfl (lv_at hl 1 rfl) ?_
        refine va_get (D := G.1) (cl := vwCl) (tys := tysG G) (ci := 11) (v := .ref (xx 2)) (C := RX11) (T := TX11) (N := 37) hx hb hts iX11 hown hG.1 hP 0 rfl rfl 1 (Nat.le_of_ble_eq_true rfl) (hts _ tw_4_98) (fun _ h9 => h9) rfl dX11_readPart_78 ?_
        refine lv_iload_n hx hb dX11_readPart_81 rfl (lv_at hl 0 rfl) ?_
        refine va_iald hx hb hG.1 hP 2 0 rfl rfl ck192 dX11_readPart_82 ?_
        refine lv_bipush (v := 9) hx hb dX11_readPart_83 lb_9 ?_
        obtain ⟨r195, hc196, h⟩ := bd_ex h
        refine sl_S K (mX11_bits l G F (s193.2.1 1 ((4 : Int32) * (s186.1 5)).toNatClampNeg) (9 : Int32) hc196) tw_5_20 tw_1_12 tw_5_19 tw_5_18 cdX11_bits ⟨Nat.le_of_ble_eq_true rfl, Nat.le_of_ble_eq_true rfl⟩ hP hD hS [] rfl rfl rfl rfl hl.1 (Nat.le_of_ble_eq_true rfl) ⟨Nat.zero_le _, Nat.zero_le _⟩ dX11_readPart_85 (fun H locs hP hD hS => ?_)
        have hP : va_P G.1 vwCl (List.flatten [wX G xx s193]) H := hP
        have hD : va_D A (List.flatten [wX G xx s193]) := hD
        obtain ⟨r197, hc198, h⟩ := bd_ex h
        refine sl_V (q0 := 0) (ci := 11) (C := RX11) K (mX11_sign l G F xx s193 r195 hc198) tw_5_13 tw_1_12 tw_5_12 tw_0_6 tw_5_10 cdX11_sign ⟨Nat.le_of_ble_eq_true rfl, Nat.le_of_ble_eq_true rfl⟩ hP hD hS [0] rfl rfl rfl rfl rfl rfl rfl hl.1 (Nat.le_of_ble_eq_true rfl) ⟨Nat.zero_le _, Nat.zero_le _⟩ dX11_readPart_88 (fun H locs hP hD hS => ?_)
        have hP : va_P G.1 vwCl (List.flatten [wX G xx r197.2]) H := hP
        have hD : va_D A (List.flatten [wX G xx r197.2]) := hD
        obtain ⟨ck199, h⟩ := ck h
        obtain ⟨s200, e201, h⟩ := nm_ex h
        refine va_iast hx hb hG.1 hP hD hS 2 0 rfl rfl ck199 dX11_readPart_91 (fun H locs hP hD hS => ?_)
        have hP : va_P G.1 vwCl (List.flatten [wX G xx s200]) H := by rw [e201]; exact hP
        have hD : va_D A (List.flatten [wX G xx s200]) := by rw [e201]; exact hD
        refine lv_aload_n hx hb dX11_readPart_92 rfl (lv_at hl 1 rfl) ?_
        refine va_get (D := G.1) (cl := vwCl) (tys := tysG G) (ci := 11) (v := .ref (xx 2)) (C := RX11) (T := TX11) (N := 37) hx hb hts iX11 hown hG.1 hP 0 rfl rfl 1 (Nat.le_of_ble_eq_true rfl) (hts _ tw_4_98) (fun _ h9 => h9) rfl dX11_readPart_93 ?_
        refine lv_iload_n hx hb dX11_readPart_96 rfl (lv_at hl 0 rfl) ?_
        refine lv_iconst (v := 2) hx hb dX11_readPart_97 li_2 ?_
        refine lv_iadd hx hb dX11_readPart_98 ?_
        refine lv_aload_n hx hb dX11_readPart_99 rfl (lv_at hl 1 rfl) ?_
        refine lv_iconst (v := 0) hx hb dX11_readPart_100 li_0 ?_
        refine lv_iconst (v := 5) hx hb dX11_readPart_101 li_5 ?_
        obtain ⟨r202, hc203, h⟩ := bd_ex h
        refine sl_S K (mX11_bits l G F (0 : Int32) (5 : Int32) hc203) tw_5_20 tw_1_12 tw_5_19 tw_5_18 cdX11_bits ⟨Nat.le_of_ble_eq_true rfl, Nat.le_of_ble_eq_true rfl⟩ hP hD hS [] rfl rfl rfl rfl hl.1 (Nat.le_of_ble_eq_true rfl) ⟨Nat.zero_le _, Nat.zero_le _⟩ dX11_readPart_102 (fun H locs hP hD hS => ?_)
        have hP : va_P G.1 vwCl (List.flatten [wX G xx s200]) H := hP
        have hD : va_D A (List.flatten [wX G xx s200]) := hD
        obtain ⟨r204, hc205, h⟩ := bd_ex h
        refine sl_V (q0 := 0) (ci := 11) (C := RX11) K (mX11_sign l G F xx s200 r202 hc205) tw_5_13 tw_1_12 tw_5_12 tw_0_6 tw_5_10 cdX11_sign ⟨Nat.le_of_ble_eq_true rfl, Nat.le_of_ble_eq_true rfl⟩ hP hD hS [0] rfl rfl rfl rfl rfl rfl rfl hl.1 (Nat.le_of_ble_eq_true rfl) ⟨Nat.zero_le _, Nat.zero_le _⟩ dX11_readPart_105 (fun H locs hP hD hS => ?_)
        have hP : va_P G.1 vwCl (List.flatten [wX G xx r204.2]) H := hP
        have hD : va_D A (List.flatten [wX G xx r204.2]) := hD
        obtain ⟨ck206, h⟩ := ck h
        obtain ⟨s207, e208, h⟩ := nm_ex h
        refine va_iast hx hb hG.1 hP hD hS 2 0 rfl rfl ck206 dX11_readPart_108 (fun H locs hP hD hS => ?_)
        have hP : va_P G.1 vwCl (List.flatten [wX G xx s207]) H := by rw [e208]; exact hP
        have hD : va_D A (List.flatten [wX G xx s207]) := by rw [e208]; exact hD
        refine lv_aload_n hx hb dX11_readPart_109 rfl (lv_at hl 1 rfl) ?_
        refine va_get (D := G.1) (cl := vwCl) (tys := tysG G) (ci := 11) (v := .ref (xx 2)) (C := RX11) (T := TX11) (N := 37) hx hb hts iX11 hown hG.1 hP 0 rfl rfl 1 (Nat.le_of_ble_eq_true rfl) (hts _ tw_4_98) (fun _ h9 => h9) rfl dX11_readPart_110 ?_
        refine lv_iload_n hx hb dX11_readPart_113 rfl (lv_at hl 0 rfl) ?_
        refine lv_iconst (v := 3) hx hb dX11_readPart_114 li_3 ?_
        refine lv_iadd hx hb dX11_readPart_115 ?_
        refine lv_aload_n hx hb dX11_readPart_116 rfl (lv_at hl 1 rfl) ?_
        refine lv_aload_n hx hb dX11_readPart_117 rfl (lv_at hl 1 rfl) ?_
        refine va_get (D := G.1) (cl := vwCl) (tys := tysG G) (ci := 11) (v := .ref (xx 2)) (C := RX11) (T := TX11) (N := 37) hx hb hts iX11 hown hG.1 hP 0 rfl rfl 1 (Nat.le_of_ble_eq_true rfl) (hts _ tw_4_98) (fun _ h9 => h9) rfl dX11_readPart_118 ?_
        refine lv_iload_n hx hb dX11_readPart_121 rfl (lv_at hl 0 rfl) ?_
        refine lv_iconst (v := 2) hx hb dX11_readPart_122 li_2 ?_
        refine lv_iadd hx hb dX11_readPart_123 ?_
        refine va_iald hx hb hG.1 hP 2 0 rfl rfl ck206 dX11_readPart_124 ?_
        refine lv_iconst (v := 5) hx hb dX11_readPart_125 li_5 ?_
        obtain ⟨r209, hc210, h⟩ := bd_ex h
        refine sl_S K (mX11_bits l G F (s207.2.1 1 (((4 : Int32) * (s186.1 5)) + (2 : Int32)).toNatClampNeg) (5 : Int32) hc210) tw_5_20 tw_1_12 tw_5_19 tw_5_18 cdX11_bits ⟨Nat.le_of_ble_eq_true rfl, Nat.le_of_ble_eq_true rfl⟩ hP hD hS [] rfl rfl rfl rfl hl.1 (Nat.le_of_ble_eq_true rfl) ⟨Nat.zero_le _, Nat.zero_le _⟩ dX11_readPart_126 (fun H locs hP hD hS => ?_)
        have hP : va_P G.1 vwCl (List.flatten [wX G xx s207]) H := hP
        have hD : va_D A (List.flatten [wX G xx s207]) := hD
        obtain ⟨r211, hc212, h⟩ := bd_ex h
        refine sl_V (q0 := 0) (ci := 11) (C := RX11) K (mX11_sign l G F xx s207 r209 hc212) tw_5_13 tw_1_12 tw_5_12 tw_0_6 tw_5_10 cdX11_sign ⟨Nat.le_of_ble_eq_true rfl, Nat.le_of_ble_eq_true rfl⟩ hP hD hS [0] rfl rfl rfl rfl rfl rfl rfl hl.1 (Nat.le_of_ble_eq_true rfl) ⟨Nat.zero_le _, Nat.zero_le _⟩ dX11_readPart_129 (fun H locs hP hD hS => ?_)
        have hP : va_P G.1 vwCl (List.flatten [wX G xx r211.2]) H := hP
        have hD : va_D A (List.flatten [wX G xx r211.2]) := hD
        obtain ⟨ck213, h⟩ := ck h
        obtain ⟨s214, e215, h⟩ := nm_ex h
        refine va_iast hx hb hG.1 hP hD hS 2 0 rfl rfl ck213 dX11_readPart_132 (fun H locs hP hD hS => ?_)
        have hP : va_P G.1 vwCl (List.flatten [wX G xx s214]) H := by rw [e215]; exact hP
        have hD : va_D A (List.flatten [wX G xx s214]) := by rw [e215]; exact hD
        refine lv_aload_n hx hb dX11_readPart_133 rfl (lv_at hl 1 rfl) ?_
        refine lv_dup hx hb dX11_readPart_134 rfl ?_
        refine va_get (D := G.1) (cl := vwCl) (tys := tysG G) (ci := 11) (v := .int (s214.1 5)) (C := RX11) (T := TX11) (N := 37) hx hb hts iX11 hown hG.1 hP 0 rfl rfl 5 (Nat.le_of_ble_eq_true rfl) (hts _ tw_4_102) (fun _ h9 => h9) rfl dX11_readPart_135 ?_
        refine lv_iconst (v := 1) hx hb dX11_readPart_138 li_1 ?_
        refine lv_iadd hx hb dX11_readPart_139 ?_
        obtain ⟨s216, e217, h⟩ := nm_ex h
        refine va_put (D := G.1) (cl := vwCl) (tys := tysG G) (ci := 11) (v := .int ((s214.1 5) + (1 : Int32))) (ty := .int) (C := RX11) (T := TX11) (N := 37) hx hb hts iX11 tyX11 tyX11_ok nmX11 hown hG.1 hP hD hS 0 rfl rfl 5 (Nat.le_of_ble_eq_true rfl) (hts _ tw_4_102) (fun _ h9 => h9) rfl (by decide +kernel) rfl rfl (Nat.le_of_ble_eq_true rfl) dX11_readPart_140 (fun H locs hP hD hS => ?_)
        have hP : va_P G.1 vwCl (List.flatten [wX G xx s216]) H := by rw [e217]; exact hP
        have hD : va_D A (List.flatten [wX G xx s216]) := by rw [e217]; exact hD
        refine lv_goto (tgt := 339) hx hb dX11_readPart_143 (by decide) ?_
        cases h
        exact rt_v K hP hD hS dX11_readPart_339
  · have h := if_t c1 h
    refine lv_aload_n hx hb dX11_readPart_6 rfl (lv_at hl 0 rfl) ?_
    refine va_get (D := G.1) (cl := vwCl) (tys := tysG G) (ci := 11) (v := .int (σxx.1 4)) (C := RX11) (T := TX11) (N := 37) hx hb hts iX11 hown hG.1 hP 0 rfl rfl 4 (Nat.le_of_ble_eq_true rfl) (hts _ tw_4_101) (fun _ h9 => h9) rfl dX11_readPart_7 ?_
    refine lv_bipush (v := 8) hx hb dX11_readPart_10 lb_8 ?_
    refine lv_icmp_ge (tgt := 22) hx hb dX11_readPart_12 (by decide) (fun c218 => ?_) (fun c218 => ?_)
    · have h := if_t c218 h
      refine lv_iload_n hx hb dX11_readPart_22 rfl (lv_at hl 1 rfl) ?_
      refine lv_bipush (v := 72) hx hb dX11_readPart_23 lb_72 ?_
      refine lv_icmp_ne (tgt := 146) hx hb dX11_readPart_25 (by decide) (fun c219 => ?_) (fun c219 => ?_)
      · have h := if_f c219 h
        refine lv_iload_n hx hb dX11_readPart_146 rfl (lv_at hl 1 rfl) ?_
        refine lv_bipush (v := 76) hx hb dX11_readPart_147 lb_76 ?_
        refine lv_icmp_ne (tgt := 213) hx hb dX11_readPart_149 (by decide) (fun c220 => ?_) (fun c220 => ?_)
        · have h := if_f c220 h
          refine lv_iload_n hx hb dX11_readPart_213 rfl (lv_at hl 1 rfl) ?_
          refine lv_bipush (v := 79) hx hb dX11_readPart_214 lb_79 ?_
          refine lv_icmp_ne (tgt := 335) hx hb dX11_readPart_216 (by decide) (fun c221 => ?_) (fun c221 => ?_)
          · have h := if_f c221 h
            refine lv_aload_n hx hb dX11_readPart_335 rfl (lv_at hl 0 rfl) ?_
            obtain ⟨r222, hc223, h⟩ := bd_ex h
            refine sl_V (q0 := 0) (ci := 11) (C := RX11) K (mX11_fail l G F xx σxx hc223) tw_5_5 tw_1_12 tw_5_4 tw_0_4 tw_5_2 cdX11_fail ⟨Nat.le_of_ble_eq_true rfl, Nat.le_of_ble_eq_true rfl⟩ hP hD hS [0] rfl rfl rfl rfl rfl rfl rfl hl.1 (Nat.le_of_ble_eq_true rfl) ⟨Nat.zero_le _, Nat.zero_le _⟩ dX11_readPart_336 (fun H locs hP hD hS => ?_)
            have hP : va_P G.1 vwCl (List.flatten [wX G xx r222]) H := hP
            have hD : va_D A (List.flatten [wX G xx r222]) := hD
            cases h
            exact rt_v K hP hD hS dX11_readPart_339
          · have h := if_t c221 h
            refine lv_aload_n hx hb dX11_readPart_219 rfl (lv_at hl 0 rfl) ?_
            refine va_get (D := G.1) (cl := vwCl) (tys := tysG G) (ci := 11) (v := .int (σxx.1 6)) (C := RX11) (T := TX11) (N := 37) hx hb hts iX11 hown hG.1 hP 0 rfl rfl 6 (Nat.le_of_ble_eq_true rfl) (hts _ tw_4_103) (fun _ h9 => h9) rfl dX11_readPart_220 ?_
            refine lv_iconst (v := 4) hx hb dX11_readPart_223 li_4 ?_
            refine lv_icmp_ge (tgt := 335) hx hb dX11_readPart_224 (by decide) (fun c224 => ?_) (fun c224 => ?_)
            · have h := if_t c224 h
              refine lv_aload_n hx hb dX11_readPart_335 rfl (lv_at hl 0 rfl) ?_
              obtain ⟨r225, hc226, h⟩ := bd_ex h
              refine sl_V (q0 := 0) (ci := 11) (C := RX11) K (mX11_fail l G F xx σxx hc226) tw_5_5 tw_1_12 tw_5_4 tw_0_4 tw_5_2 cdX11_fail ⟨Nat.le_of_ble_eq_true rfl, Nat.le_of_ble_eq_true rfl⟩ hP hD hS [0] rfl rfl rfl rfl rfl rfl rfl hl.1 (Nat.le_of_ble_eq_true rfl) ⟨Nat.zero_le _, Nat.zero_le _⟩ dX11_readPart_336 (fun H locs hP hD hS => ?_)
              have hP : va_P G.1 vwCl (List.flatten [wX G xx r225]) H := hP
              have hD : va_D A (List.flatten [wX G xx r225]) := hD
              cases h
              exact rt_v K hP hD hS dX11_readPart_339
            · have h := if_f c224 h
              refine lv_aload_n hx hb dX11_readPart_227 rfl (lv_at hl 0 rfl) ?_
              refine lv_dup hx hb dX11_readPart_228 rfl ?_
              refine va_get (D := G.1) (cl := vwCl) (tys := tysG G) (ci := 11) (v := .int (σxx.1 17)) (C := RX11) (T := TX11) (N := 37) hx hb hts iX11 hown hG.1 hP 0 rfl rfl 17 (Nat.le_of_ble_eq_true rfl) (hts _ tw_4_114) (fun _ h9 => h9) rfl dX11_readPart_229 ?_
              refine lv_iconst (v := 1) hx hb dX11_readPart_232 li_1 ?_
              refine lv_iadd hx hb dX11_readPart_233 ?_
              obtain ⟨s227, e228, h⟩ := nm_ex h
              refine va_put (D := G.1) (cl := vwCl) (tys := tysG G) (ci := 11) (v := .int ((σxx.1 17) + (1 : Int32))) (ty := .int) (C := RX11) (T := TX11) (N := 37) hx hb hts iX11 tyX11 tyX11_ok nmX11 hown hG.1 hP hD hS 0 rfl rfl 17 (Nat.le_of_ble_eq_true rfl) (hts _ tw_4_114) (fun _ h9 => h9) rfl (by decide +kernel) rfl rfl (Nat.le_of_ble_eq_true rfl) dX11_readPart_234 (fun H locs hP hD hS => ?_)
              have hP : va_P G.1 vwCl (List.flatten [wX G xx s227]) H := by rw [e228]; exact hP
              have hD : va_D A (List.flatten [wX G xx s227]) := by rw [e228]; exact hD
              refine lv_iconst (v := 4) hx hb dX11_readPart_237 li_4 ?_
              refine lv_aload_n hx hb dX11_readPart_238 rfl (lv_at hl 0 rfl) ?_
              refine va_get (D := G.1) (cl := vwCl) (tys := tysG G) (ci := 11) (v := .int (s227.1 6)) (C := RX11) (T := TX11) (N := 37) hx hb hts iX11 hown hG.1 hP 0 rfl rfl 6 (Nat.le_of_ble_eq_true rfl) (hts _ tw_4_103) (fun _ h9 => h9) rfl dX11_readPart_239 ?_
              refine lv_imul hx hb dX11_readPart_242 ?_
              refine lv_istore_n (lv' := [(2, .int ((4 : Int32) * (s227.1 6))), (0, .ref (xx 0)), (1, .int x1)]) hx hb dX11_readPart_243 rfl hl (Nat.le_of_ble_eq_true rfl) rfl (fun ls hl => ?_)
              refine lv_aload_n hx hb dX11_readPart_244 rfl (lv_at hl 1 rfl) ?_
              refine va_get (D := G.1) (cl := vwCl) (tys := tysG G) (ci := 11) (v := .ref (xx 3)) (C := RX11) (T := TX11) (N := 37) hx hb hts iX11 hown hG.1 hP 0 rfl rfl 2 (Nat.le_of_ble_eq_true rfl) (hts _ tw_4_99) (fun _ h9 => h9) rfl dX11_readPart_245 ?_
              refine lv_iload_n hx hb dX11_readPart_248 rfl (lv_at hl 0 rfl) ?_
              refine lv_aload_n hx hb dX11_readPart_249 rfl (lv_at hl 1 rfl) ?_
              refine lv_iconst (v := 0) hx hb dX11_readPart_250 li_0 ?_
              refine lv_bipush (v := 9) hx hb dX11_readPart_251 lb_9 ?_
              obtain ⟨r229, hc230, h⟩ := bd_ex h
              refine sl_S K (mX11_bits l G F (0 : Int32) (9 : Int32) hc230) tw_5_20 tw_1_12 tw_5_19 tw_5_18 cdX11_bits ⟨Nat.le_of_ble_eq_true rfl, Nat.le_of_ble_eq_true rfl⟩ hP hD hS [] rfl rfl rfl rfl hl.1 (Nat.le_of_ble_eq_true rfl) ⟨Nat.zero_le _, Nat.zero_le _⟩ dX11_readPart_253 (fun H locs hP hD hS => ?_)
              have hP : va_P G.1 vwCl (List.flatten [wX G xx s227]) H := hP
              have hD : va_D A (List.flatten [wX G xx s227]) := hD
              obtain ⟨r231, hc232, h⟩ := bd_ex h
              refine sl_V (q0 := 0) (ci := 11) (C := RX11) K (mX11_sign l G F xx s227 r229 hc232) tw_5_13 tw_1_12 tw_5_12 tw_0_6 tw_5_10 cdX11_sign ⟨Nat.le_of_ble_eq_true rfl, Nat.le_of_ble_eq_true rfl⟩ hP hD hS [0] rfl rfl rfl rfl rfl rfl rfl hl.1 (Nat.le_of_ble_eq_true rfl) ⟨Nat.zero_le _, Nat.zero_le _⟩ dX11_readPart_256 (fun H locs hP hD hS => ?_)
              have hP : va_P G.1 vwCl (List.flatten [wX G xx r231.2]) H := hP
              have hD : va_D A (List.flatten [wX G xx r231.2]) := hD
              obtain ⟨ck233, h⟩ := ck h
              obtain ⟨s234, e235, h⟩ := nm_ex h
              refine va_iast hx hb hG.1 hP hD hS 3 0 rfl rfl ck233 dX11_readPart_259 (fun H locs hP hD hS => ?_)
              have hP : va_P G.1 vwCl (List.flatten [wX G xx s234]) H := by rw [e235]; exact hP
              have hD : va_D A (List.flatten [wX G xx s234]) := by rw [e235]; exact hD
              refine lv_aload_n hx hb dX11_readPart_260 rfl (lv_at hl 1 rfl) ?_
              refine va_get (D := G.1) (cl := vwCl) (tys := tysG G) (ci := 11) (v := .ref (xx 3)) (C := RX11) (T := TX11) (N := 37) hx hb hts iX11 hown hG.1 hP 0 rfl rfl 2 (Nat.le_of_ble_eq_true rfl) (hts _ tw_4_99) (fun _ h9 => h9) rfl dX11_readPart_261 ?_
              refine lv_iload_n hx hb dX11_readPart_264 rfl (lv_at hl 0 rfl) ?_
              refine lv_iconst (v := 1) hx hb dX11_readPart_265 li_1 ?_
              refine lv_iadd hx hb dX11_readPart_266 ?_
              refine lv_aload_n hx hb dX11_readPart_267 rfl (lv_at hl 1 rfl) ?_
              refine lv_aload_n hx hb dX11_readPart_268 rfl (lv_at hl 1 rfl) ?_
              refine va_get (D := G.1) (cl := vwCl) (tys := tysG G) (ci := 11) (v := .ref (xx 3)) (C := RX11) (T := TX11) (N := 37) hx hb hts iX11 hown hG.1 hP 0 rfl rfl 2 (Nat.le_of_ble_eq_true rfl) (hts _ tw_4_99) (fun _ h9 => h9) rfl dX11_readPart_269 ?_
              refine lv_iload_n hx hb dX11_readPart_272 rfl (lv_at hl 0 rfl) ?_
              refine va_iald hx hb hG.1 hP 3 0 rfl rfl ck233 dX11_readPart_273 ?_
              refine lv_bipush (v := 9) hx hb dX11_readPart_274 lb_9 ?_
              obtain ⟨r236, hc237, h⟩ := bd_ex h
              refine sl_S K (mX11_bits l G F (s234.2.1 2 ((4 : Int32) * (s227.1 6)).toNatClampNeg) (9 : Int32) hc237) tw_5_20 tw_1_12 tw_5_19 tw_5_18 cdX11_bits ⟨Nat.le_of_ble_eq_true rfl, Nat.le_of_ble_eq_true rfl⟩ hP hD hS [] rfl rfl rfl rfl hl.1 (Nat.le_of_ble_eq_true rfl) ⟨Nat.zero_le _, Nat.zero_le _⟩ dX11_readPart_276 (fun H locs hP hD hS => ?_)
              have hP : va_P G.1 vwCl (List.flatten [wX G xx s234]) H := hP
              have hD : va_D A (List.flatten [wX G xx s234]) := hD
              obtain ⟨r238, hc239, h⟩ := bd_ex h
              refine sl_V (q0 := 0) (ci := 11) (C := RX11) K (mX11_sign l G F xx s234 r236 hc239) tw_5_13 tw_1_12 tw_5_12 tw_0_6 tw_5_10 cdX11_sign ⟨Nat.le_of_ble_eq_true rfl, Nat.le_of_ble_eq_true rfl⟩ hP hD hS [0] rfl rfl rfl rfl rfl rfl rfl hl.1 (Nat.le_of_ble_eq_true rfl) ⟨Nat.zero_le _, Nat.zero_le _⟩ dX11_readPart_279 (fun H locs hP hD hS => ?_)
              have hP : va_P G.1 vwCl (List.flatten [wX G xx r238.2]) H := hP
              have hD : va_D A (List.flatten [wX G xx r238.2]) := hD
              obtain ⟨ck240, h⟩ := ck h
              obtain ⟨s241, e242, h⟩ := nm_ex h
              refine va_iast hx hb hG.1 hP hD hS 3 0 rfl rfl ck240 dX11_readPart_282 (fun H locs hP hD hS => ?_)
              have hP : va_P G.1 vwCl (List.flatten [wX G xx s241]) H := by rw [e242]; exact hP
              have hD : va_D A (List.flatten [wX G xx s241]) := by rw [e242]; exact hD
              refine lv_aload_n hx hb dX11_readPart_283 rfl (lv_at hl 1 rfl) ?_
              refine va_get (D := G.1) (cl := vwCl) (tys := tysG G) (ci := 11) (v := .ref (xx 3)) (C := RX11) (T := TX11) (N := 37) hx hb hts iX11 hown hG.1 hP 0 rfl rfl 2 (Nat.le_of_ble_eq_true rfl) (hts _ tw_4_99) (fun _ h9 => h9) rfl dX11_readPart_284 ?_
              refine lv_iload_n hx hb dX11_readPart_287 rfl (lv_at hl 0 rfl) ?_
              refine lv_iconst (v := 2) hx hb dX11_readPart_288 li_2 ?_
              refine lv_iadd hx hb dX11_readPart_289 ?_
              refine lv_aload_n hx hb dX11_readPart_290 rfl (lv_at hl 1 rfl) ?_
              refine lv_ldc (v := 65535) hx hb hown (hts _ tw_5_25) dX11_readPart_291 ?_
              obtain ⟨r243, hc244, h⟩ := bd_ex h
              refine sl_V (q0 := 0) (ci := 11) (C := RX11) K (mX11_sign l G F xx s241 (65535 : Int32) hc244) tw_5_13 tw_1_12 tw_5_12 tw_0_6 tw_5_10 cdX11_sign ⟨Nat.le_of_ble_eq_true rfl, Nat.le_of_ble_eq_true rfl⟩ hP hD hS [0] rfl rfl rfl rfl rfl rfl rfl hl.1 (Nat.le_of_ble_eq_true rfl) ⟨Nat.zero_le _, Nat.zero_le _⟩ dX11_readPart_293 (fun H locs hP hD hS => ?_)
              have hP : va_P G.1 vwCl (List.flatten [wX G xx r243.2]) H := hP
              have hD : va_D A (List.flatten [wX G xx r243.2]) := hD
              obtain ⟨ck245, h⟩ := ck h
              obtain ⟨s246, e247, h⟩ := nm_ex h
              refine va_iast hx hb hG.1 hP hD hS 3 0 rfl rfl ck245 dX11_readPart_296 (fun H locs hP hD hS => ?_)
              have hP : va_P G.1 vwCl (List.flatten [wX G xx s246]) H := by rw [e247]; exact hP
              have hD : va_D A (List.flatten [wX G xx s246]) := by rw [e247]; exact hD
              refine lv_aload_n hx hb dX11_readPart_297 rfl (lv_at hl 1 rfl) ?_
              refine va_get (D := G.1) (cl := vwCl) (tys := tysG G) (ci := 11) (v := .ref (xx 3)) (C := RX11) (T := TX11) (N := 37) hx hb hts iX11 hown hG.1 hP 0 rfl rfl 2 (Nat.le_of_ble_eq_true rfl) (hts _ tw_4_99) (fun _ h9 => h9) rfl dX11_readPart_298 ?_
              refine lv_iload_n hx hb dX11_readPart_301 rfl (lv_at hl 0 rfl) ?_
              refine lv_iconst (v := 3) hx hb dX11_readPart_302 li_3 ?_
              refine lv_iadd hx hb dX11_readPart_303 ?_
              refine lv_aload_n hx hb dX11_readPart_304 rfl (lv_at hl 1 rfl) ?_
              refine lv_aload_n hx hb dX11_readPart_305 rfl (lv_at hl 1 rfl) ?_
              refine va_get (D := G.1) (cl := vwCl) (tys := tysG G) (ci := 11) (v := .ref (xx 3)) (C := RX11) (T := TX11) (N := 37) hx hb hts iX11 hown hG.1 hP 0 rfl rfl 2 (Nat.le_of_ble_eq_true rfl) (hts _ tw_4_99) (fun _ h9 => h9) rfl dX11_readPart_306 ?_
              refine lv_iload_n hx hb dX11_readPart_309 rfl (lv_at hl 0 rfl) ?_
              refine lv_iconst (v := 2) hx hb dX11_readPart_310 li_2 ?_
              refine lv_iadd hx hb dX11_readPart_311 ?_
              refine va_iald hx hb hG.1 hP 3 0 rfl rfl ck245 dX11_readPart_312 ?_
              refine lv_bipush (v := 15) hx hb dX11_readPart_313 lb_15 ?_
              obtain ⟨r248, hc249, h⟩ := bd_ex h
              refine sl_S K (mX11_bits l G F (s246.2.1 2 (((4 : Int32) * (s227.1 6)) + (2 : Int32)).toNatClampNeg) (15 : Int32) hc249) tw_5_20 tw_1_12 tw_5_19 tw_5_18 cdX11_bits ⟨Nat.le_of_ble_eq_true rfl, Nat.le_of_ble_eq_true rfl⟩ hP hD hS [] rfl rfl rfl rfl hl.1 (Nat.le_of_ble_eq_true rfl) ⟨Nat.zero_le _, Nat.zero_le _⟩ dX11_readPart_315 (fun H locs hP hD hS => ?_)
              have hP : va_P G.1 vwCl (List.flatten [wX G xx s246]) H := hP
              have hD : va_D A (List.flatten [wX G xx s246]) := hD
              obtain ⟨r250, hc251, h⟩ := bd_ex h
              refine sl_V (q0 := 0) (ci := 11) (C := RX11) K (mX11_sign l G F xx s246 r248 hc251) tw_5_13 tw_1_12 tw_5_12 tw_0_6 tw_5_10 cdX11_sign ⟨Nat.le_of_ble_eq_true rfl, Nat.le_of_ble_eq_true rfl⟩ hP hD hS [0] rfl rfl rfl rfl rfl rfl rfl hl.1 (Nat.le_of_ble_eq_true rfl) ⟨Nat.zero_le _, Nat.zero_le _⟩ dX11_readPart_318 (fun H locs hP hD hS => ?_)
              have hP : va_P G.1 vwCl (List.flatten [wX G xx r250.2]) H := hP
              have hD : va_D A (List.flatten [wX G xx r250.2]) := hD
              obtain ⟨ck252, h⟩ := ck h
              obtain ⟨s253, e254, h⟩ := nm_ex h
              refine va_iast hx hb hG.1 hP hD hS 3 0 rfl rfl ck252 dX11_readPart_321 (fun H locs hP hD hS => ?_)
              have hP : va_P G.1 vwCl (List.flatten [wX G xx s253]) H := by rw [e254]; exact hP
              have hD : va_D A (List.flatten [wX G xx s253]) := by rw [e254]; exact hD
              refine lv_aload_n hx hb dX11_readPart_322 rfl (lv_at hl 1 rfl) ?_
              refine lv_dup hx hb dX11_readPart_323 rfl ?_
              refine va_get (D := G.1) (cl := vwCl) (tys := tysG G) (ci := 11) (v := .int (s253.1 6)) (C := RX11) (T := TX11) (N := 37) hx hb hts iX11 hown hG.1 hP 0 rfl rfl 6 (Nat.le_of_ble_eq_true rfl) (hts _ tw_4_103) (fun _ h9 => h9) rfl dX11_readPart_324 ?_
              refine lv_iconst (v := 1) hx hb dX11_readPart_327 li_1 ?_
              refine lv_iadd hx hb dX11_readPart_328 ?_
              obtain ⟨s255, e256, h⟩ := nm_ex h
              refine va_put (D := G.1) (cl := vwCl) (tys := tysG G) (ci := 11) (v := .int ((s253.1 6) + (1 : Int32))) (ty := .int) (C := RX11) (T := TX11) (N := 37) hx hb hts iX11 tyX11 tyX11_ok nmX11 hown hG.1 hP hD hS 0 rfl rfl 6 (Nat.le_of_ble_eq_true rfl) (hts _ tw_4_103) (fun _ h9 => h9) rfl (by decide +kernel) rfl rfl (Nat.le_of_ble_eq_true rfl) dX11_readPart_329 (fun H locs hP hD hS => ?_)
              have hP : va_P G.1 vwCl (List.flatten [wX G xx s255]) H := by rw [e256]; exact hP
              have hD : va_D A (List.flatten [wX G xx s255]) := by rw [e256]; exact hD
              refine lv_goto (tgt := 339) hx hb dX11_readPart_332 (by decide) ?_
              cases h
              exact rt_v K hP hD hS dX11_readPart_339
        · have h := if_t c220 h
          refine lv_aload_n hx hb dX11_readPart_152 rfl (lv_at hl 0 rfl) ?_
          obtain ⟨r257, hc258, h⟩ := bd_ex h
          refine sl_V (q0 := 0) (ci := 11) (C := RX11) K (mX11_untold l G F xx σxx hc258) tw_5_24 tw_1_12 tw_5_23 tw_0_7 tw_5_21 cdX11_untold ⟨Nat.le_of_ble_eq_true rfl, Nat.le_of_ble_eq_true rfl⟩ hP hD hS [0] rfl rfl rfl rfl rfl rfl rfl hl.1 (Nat.le_of_ble_eq_true rfl) ⟨Nat.zero_le _, Nat.zero_le _⟩ dX11_readPart_153 (fun H locs hP hD hS => ?_)
          have hP : va_P G.1 vwCl (List.flatten [wX G xx σxx]) H := hP
          have hD : va_D A (List.flatten [wX G xx σxx]) := hD
          refine lv_if_eq (tgt := 213) hx hb dX11_readPart_156 (by decide) (fun c259 => ?_) (fun c259 => ?_)
          · have h := if_t c259 h
            refine lv_iload_n hx hb dX11_readPart_213 rfl (lv_at hl 1 rfl) ?_
            refine lv_bipush (v := 79) hx hb dX11_readPart_214 lb_79 ?_
            refine lv_icmp_ne (tgt := 335) hx hb dX11_readPart_216 (by decide) (fun c260 => ?_) (fun c260 => ?_)
            · have h := if_f c260 h
              refine lv_aload_n hx hb dX11_readPart_335 rfl (lv_at hl 0 rfl) ?_
              obtain ⟨r261, hc262, h⟩ := bd_ex h
              refine sl_V (q0 := 0) (ci := 11) (C := RX11) K (mX11_fail l G F xx σxx hc262) tw_5_5 tw_1_12 tw_5_4 tw_0_4 tw_5_2 cdX11_fail ⟨Nat.le_of_ble_eq_true rfl, Nat.le_of_ble_eq_true rfl⟩ hP hD hS [0] rfl rfl rfl rfl rfl rfl rfl hl.1 (Nat.le_of_ble_eq_true rfl) ⟨Nat.zero_le _, Nat.zero_le _⟩ dX11_readPart_336 (fun H locs hP hD hS => ?_)
              have hP : va_P G.1 vwCl (List.flatten [wX G xx r261]) H := hP
              have hD : va_D A (List.flatten [wX G xx r261]) := hD
              cases h
              exact rt_v K hP hD hS dX11_readPart_339
            · have h := if_t c260 h
              refine lv_aload_n hx hb dX11_readPart_219 rfl (lv_at hl 0 rfl) ?_
              refine va_get (D := G.1) (cl := vwCl) (tys := tysG G) (ci := 11) (v := .int (σxx.1 6)) (C := RX11) (T := TX11) (N := 37) hx hb hts iX11 hown hG.1 hP 0 rfl rfl 6 (Nat.le_of_ble_eq_true rfl) (hts _ tw_4_103) (fun _ h9 => h9) rfl dX11_readPart_220 ?_
              refine lv_iconst (v := 4) hx hb dX11_readPart_223 li_4 ?_
              refine lv_icmp_ge (tgt := 335) hx hb dX11_readPart_224 (by decide) (fun c263 => ?_) (fun c263 => ?_)
              · have h := if_t c263 h
                refine lv_aload_n hx hb dX11_readPart_335 rfl (lv_at hl 0 rfl) ?_
                obtain ⟨r264, hc265, h⟩ := bd_ex h
                refine sl_V (q0 := 0) (ci := 11) (C := RX11) K (mX11_fail l G F xx σxx hc265) tw_5_5 tw_1_12 tw_5_4 tw_0_4 tw_5_2 cdX11_fail ⟨Nat.le_of_ble_eq_true rfl, Nat.le_of_ble_eq_true rfl⟩ hP hD hS [0] rfl rfl rfl rfl rfl rfl rfl hl.1 (Nat.le_of_ble_eq_true rfl) ⟨Nat.zero_le _, Nat.zero_le _⟩ dX11_readPart_336 (fun H locs hP hD hS => ?_)
                have hP : va_P G.1 vwCl (List.flatten [wX G xx r264]) H := hP
                have hD : va_D A (List.flatten [wX G xx r264]) := hD
                cases h
                exact rt_v K hP hD hS dX11_readPart_339
              · have h := if_f c263 h
                refine lv_aload_n hx hb dX11_readPart_227 rfl (lv_at hl 0 rfl) ?_
                refine lv_dup hx hb dX11_readPart_228 rfl ?_
                refine va_get (D := G.1) (cl := vwCl) (tys := tysG G) (ci := 11) (v := .int (σxx.1 17)) (C := RX11) (T := TX11) (N := 37) hx hb hts iX11 hown hG.1 hP 0 rfl rfl 17 (Nat.le_of_ble_eq_true rfl) (hts _ tw_4_114) (fun _ h9 => h9) rfl dX11_readPart_229 ?_
                refine lv_iconst (v := 1) hx hb dX11_readPart_232 li_1 ?_
                refine lv_iadd hx hb dX11_readPart_233 ?_
                obtain ⟨s266, e267, h⟩ := nm_ex h
                refine va_put (D := G.1) (cl := vwCl) (tys := tysG G) (ci := 11) (v := .int ((σxx.1 17) + (1 : Int32))) (ty := .int) (C := RX11) (T := TX11) (N := 37) hx hb hts iX11 tyX11 tyX11_ok nmX11 hown hG.1 hP hD hS 0 rfl rfl 17 (Nat.le_of_ble_eq_true rfl) (hts _ tw_4_114) (fun _ h9 => h9) rfl (by decide +kernel) rfl rfl (Nat.le_of_ble_eq_true rfl) dX11_readPart_234 (fun H locs hP hD hS => ?_)
                have hP : va_P G.1 vwCl (List.flatten [wX G xx s266]) H := by rw [e267]; exact hP
                have hD : va_D A (List.flatten [wX G xx s266]) := by rw [e267]; exact hD
                refine lv_iconst (v := 4) hx hb dX11_readPart_237 li_4 ?_
                refine lv_aload_n hx hb dX11_readPart_238 rfl (lv_at hl 0 rfl) ?_
                refine va_get (D := G.1) (cl := vwCl) (tys := tysG G) (ci := 11) (v := .int (s266.1 6)) (C := RX11) (T := TX11) (N := 37) hx hb hts iX11 hown hG.1 hP 0 rfl rfl 6 (Nat.le_of_ble_eq_true rfl) (hts _ tw_4_103) (fun _ h9 => h9) rfl dX11_readPart_239 ?_
                refine lv_imul hx hb dX11_readPart_242 ?_
                refine lv_istore_n (lv' := [(2, .int ((4 : Int32) * (s266.1 6))), (0, .ref (xx 0)), (1, .int x1)]) hx hb dX11_readPart_243 rfl hl (Nat.le_of_ble_eq_true rfl) rfl (fun ls hl => ?_)
                refine lv_aload_n hx hb dX11_readPart_244 rfl (lv_at hl 1 rfl) ?_
                refine va_get (D := G.1) (cl := vwCl) (tys := tysG G) (ci := 11) (v := .ref (xx 3)) (C := RX11) (T := TX11) (N := 37) hx hb hts iX11 hown hG.1 hP 0 rfl rfl 2 (Nat.le_of_ble_eq_true rfl) (hts _ tw_4_99) (fun _ h9 => h9) rfl dX11_readPart_245 ?_
                refine lv_iload_n hx hb dX11_readPart_248 rfl (lv_at hl 0 rfl) ?_
                refine lv_aload_n hx hb dX11_readPart_249 rfl (lv_at hl 1 rfl) ?_
                refine lv_iconst (v := 0) hx hb dX11_readPart_250 li_0 ?_
                refine lv_bipush (v := 9) hx hb dX11_readPart_251 lb_9 ?_
                obtain ⟨r268, hc269, h⟩ := bd_ex h
                refine sl_S K (mX11_bits l G F (0 : Int32) (9 : Int32) hc269) tw_5_20 tw_1_12 tw_5_19 tw_5_18 cdX11_bits ⟨Nat.le_of_ble_eq_true rfl, Nat.le_of_ble_eq_true rfl⟩ hP hD hS [] rfl rfl rfl rfl hl.1 (Nat.le_of_ble_eq_true rfl) ⟨Nat.zero_le _, Nat.zero_le _⟩ dX11_readPart_253 (fun H locs hP hD hS => ?_)
                have hP : va_P G.1 vwCl (List.flatten [wX G xx s266]) H := hP
                have hD : va_D A (List.flatten [wX G xx s266]) := hD
                obtain ⟨r270, hc271, h⟩ := bd_ex h
                refine sl_V (q0 := 0) (ci := 11) (C := RX11) K (mX11_sign l G F xx s266 r268 hc271) tw_5_13 tw_1_12 tw_5_12 tw_0_6 tw_5_10 cdX11_sign ⟨Nat.le_of_ble_eq_true rfl, Nat.le_of_ble_eq_true rfl⟩ hP hD hS [0] rfl rfl rfl rfl rfl rfl rfl hl.1 (Nat.le_of_ble_eq_true rfl) ⟨Nat.zero_le _, Nat.zero_le _⟩ dX11_readPart_256 (fun H locs hP hD hS => ?_)
                have hP : va_P G.1 vwCl (List.flatten [wX G xx r270.2]) H := hP
                have hD : va_D A (List.flatten [wX G xx r270.2]) := hD
                obtain ⟨ck272, h⟩ := ck h
                obtain ⟨s273, e274, h⟩ := nm_ex h
                refine va_iast hx hb hG.1 hP hD hS 3 0 rfl rfl ck272 dX11_readPart_259 (fun H locs hP hD hS => ?_)
                have hP : va_P G.1 vwCl (List.flatten [wX G xx s273]) H := by rw [e274]; exact hP
                have hD : va_D A (List.flatten [wX G xx s273]) := by rw [e274]; exact hD
                refine lv_aload_n hx hb dX11_readPart_260 rfl (lv_at hl 1 rfl) ?_
                refine va_get (D := G.1) (cl := vwCl) (tys := tysG G) (ci := 11) (v := .ref (xx 3)) (C := RX11) (T := TX11) (N := 37) hx hb hts iX11 hown hG.1 hP 0 rfl rfl 2 (Nat.le_of_ble_eq_true rfl) (hts _ tw_4_99) (fun _ h9 => h9) rfl dX11_readPart_261 ?_
                refine lv_iload_n hx hb dX11_readPart_264 rfl (lv_at hl 0 rfl) ?_
                refine lv_iconst (v := 1) hx hb dX11_readPart_265 li_1 ?_
                refine lv_iadd hx hb dX11_readPart_266 ?_
                refine lv_aload_n hx hb dX11_readPart_267 rfl (lv_at hl 1 rfl) ?_
                refine lv_aload_n hx hb dX11_readPart_268 rfl (lv_at hl 1 rfl) ?_
                refine va_get (D := G.1) (cl := vwCl) (tys := tysG G) (ci := 11) (v := .ref (xx 3)) (C := RX11) (T := TX11) (N := 37) hx hb hts iX11 hown hG.1 hP 0 rfl rfl 2 (Nat.le_of_ble_eq_true rfl) (hts _ tw_4_99) (fun _ h9 => h9) rfl dX11_readPart_269 ?_
                refine lv_iload_n hx hb dX11_readPart_272 rfl (lv_at hl 0 rfl) ?_
                refine va_iald hx hb hG.1 hP 3 0 rfl rfl ck272 dX11_readPart_273 ?_
                refine lv_bipush (v := 9) hx hb dX11_readPart_274 lb_9 ?_
                obtain ⟨r275, hc276, h⟩ := bd_ex h
                refine sl_S K (mX11_bits l G F (s273.2.1 2 ((4 : Int32) * (s266.1 6)).toNatClampNeg) (9 : Int32) hc276) tw_5_20 tw_1_12 tw_5_19 tw_5_18 cdX11_bits ⟨Nat.le_of_ble_eq_true rfl, Nat.le_of_ble_eq_true rfl⟩ hP hD hS [] rfl rfl rfl rfl hl.1 (Nat.le_of_ble_eq_true rfl) ⟨Nat.zero_le _, Nat.zero_le _⟩ dX11_readPart_276 (fun H locs hP hD hS => ?_)
                have hP : va_P G.1 vwCl (List.flatten [wX G xx s273]) H := hP
                have hD : va_D A (List.flatten [wX G xx s273]) := hD
                obtain ⟨r277, hc278, h⟩ := bd_ex h
                refine sl_V (q0 := 0) (ci := 11) (C := RX11) K (mX11_sign l G F xx s273 r275 hc278) tw_5_13 tw_1_12 tw_5_12 tw_0_6 tw_5_10 cdX11_sign ⟨Nat.le_of_ble_eq_true rfl, Nat.le_of_ble_eq_true rfl⟩ hP hD hS [0] rfl rfl rfl rfl rfl rfl rfl hl.1 (Nat.le_of_ble_eq_true rfl) ⟨Nat.zero_le _, Nat.zero_le _⟩ dX11_readPart_279 (fun H locs hP hD hS => ?_)
                have hP : va_P G.1 vwCl (List.flatten [wX G xx r277.2]) H := hP
                have hD : va_D A (List.flatten [wX G xx r277.2]) := hD
                obtain ⟨ck279, h⟩ := ck h
                obtain ⟨s280, e281, h⟩ := nm_ex h
                refine va_iast hx hb hG.1 hP hD hS 3 0 rfl rfl ck279 dX11_readPart_282 (fun H locs hP hD hS => ?_)
                have hP : va_P G.1 vwCl (List.flatten [wX G xx s280]) H := by rw [e281]; exact hP
                have hD : va_D A (List.flatten [wX G xx s280]) := by rw [e281]; exact hD
                refine lv_aload_n hx hb dX11_readPart_283 rfl (lv_at hl 1 rfl) ?_
                refine va_get (D := G.1) (cl := vwCl) (tys := tysG G) (ci := 11) (v := .ref (xx 3)) (C := RX11) (T := TX11) (N := 37) hx hb hts iX11 hown hG.1 hP 0 rfl rfl 2 (Nat.le_of_ble_eq_true rfl) (hts _ tw_4_99) (fun _ h9 => h9) rfl dX11_readPart_284 ?_
                refine lv_iload_n hx hb dX11_readPart_287 rfl (lv_at hl 0 rfl) ?_
                refine lv_iconst (v := 2) hx hb dX11_readPart_288 li_2 ?_
                refine lv_iadd hx hb dX11_readPart_289 ?_
                refine lv_aload_n hx hb dX11_readPart_290 rfl (lv_at hl 1 rfl) ?_
                refine lv_ldc (v := 65535) hx hb hown (hts _ tw_5_25) dX11_readPart_291 ?_
                obtain ⟨r282, hc283, h⟩ := bd_ex h
                refine sl_V (q0 := 0) (ci := 11) (C := RX11) K (mX11_sign l G F xx s280 (65535 : Int32) hc283) tw_5_13 tw_1_12 tw_5_12 tw_0_6 tw_5_10 cdX11_sign ⟨Nat.le_of_ble_eq_true rfl, Nat.le_of_ble_eq_true rfl⟩ hP hD hS [0] rfl rfl rfl rfl rfl rfl rfl hl.1 (Nat.le_of_ble_eq_true rfl) ⟨Nat.zero_le _, Nat.zero_le _⟩ dX11_readPart_293 (fun H locs hP hD hS => ?_)
                have hP : va_P G.1 vwCl (List.flatten [wX G xx r282.2]) H := hP
                have hD : va_D A (List.flatten [wX G xx r282.2]) := hD
                obtain ⟨ck284, h⟩ := ck h
                obtain ⟨s285, e286, h⟩ := nm_ex h
                refine va_iast hx hb hG.1 hP hD hS 3 0 rfl rfl ck284 dX11_readPart_296 (fun H locs hP hD hS => ?_)
                have hP : va_P G.1 vwCl (List.flatten [wX G xx s285]) H := by rw [e286]; exact hP
                have hD : va_D A (List.flatten [wX G xx s285]) := by rw [e286]; exact hD
                refine lv_aload_n hx hb dX11_readPart_297 rfl (lv_at hl 1 rfl) ?_
                refine va_get (D := G.1) (cl := vwCl) (tys := tysG G) (ci := 11) (v := .ref (xx 3)) (C := RX11) (T := TX11) (N := 37) hx hb hts iX11 hown hG.1 hP 0 rfl rfl 2 (Nat.le_of_ble_eq_true rfl) (hts _ tw_4_99) (fun _ h9 => h9) rfl dX11_readPart_298 ?_
                refine lv_iload_n hx hb dX11_readPart_301 rfl (lv_at hl 0 rfl) ?_
                refine lv_iconst (v := 3) hx hb dX11_readPart_302 li_3 ?_
                refine lv_iadd hx hb dX11_readPart_303 ?_
                refine lv_aload_n hx hb dX11_readPart_304 rfl (lv_at hl 1 rfl) ?_
                refine lv_aload_n hx hb dX11_readPart_305 rfl (lv_at hl 1 rfl) ?_
                refine va_get (D := G.1) (cl := vwCl) (tys := tysG G) (ci := 11) (v := .ref (xx 3)) (C := RX11) (T := TX11) (N := 37) hx hb hts iX11 hown hG.1 hP 0 rfl rfl 2 (Nat.le_of_ble_eq_true rfl) (hts _ tw_4_99) (fun _ h9 => h9) rfl dX11_readPart_306 ?_
                refine lv_iload_n hx hb dX11_readPart_309 rfl (lv_at hl 0 rfl) ?_
                refine lv_iconst (v := 2) hx hb dX11_readPart_310 li_2 ?_
                refine lv_iadd hx hb dX11_readPart_311 ?_
                refine va_iald hx hb hG.1 hP 3 0 rfl rfl ck284 dX11_readPart_312 ?_
                refine lv_bipush (v := 15) hx hb dX11_readPart_313 lb_15 ?_
                obtain ⟨r287, hc288, h⟩ := bd_ex h
                refine sl_S K (mX11_bits l G F (s285.2.1 2 (((4 : Int32) * (s266.1 6)) + (2 : Int32)).toNatClampNeg) (15 : Int32) hc288) tw_5_20 tw_1_12 tw_5_19 tw_5_18 cdX11_bits ⟨Nat.le_of_ble_eq_true rfl, Nat.le_of_ble_eq_true rfl⟩ hP hD hS [] rfl rfl rfl rfl hl.1 (Nat.le_of_ble_eq_true rfl) ⟨Nat.zero_le _, Nat.zero_le _⟩ dX11_readPart_315 (fun H locs hP hD hS => ?_)
                have hP : va_P G.1 vwCl (List.flatten [wX G xx s285]) H := hP
                have hD : va_D A (List.flatten [wX G xx s285]) := hD
                obtain ⟨r289, hc290, h⟩ := bd_ex h
                refine sl_V (q0 := 0) (ci := 11) (C := RX11) K (mX11_sign l G F xx s285 r287 hc290) tw_5_13 tw_1_12 tw_5_12 tw_0_6 tw_5_10 cdX11_sign ⟨Nat.le_of_ble_eq_true rfl, Nat.le_of_ble_eq_true rfl⟩ hP hD hS [0] rfl rfl rfl rfl rfl rfl rfl hl.1 (Nat.le_of_ble_eq_true rfl) ⟨Nat.zero_le _, Nat.zero_le _⟩ dX11_readPart_318 (fun H locs hP hD hS => ?_)
                have hP : va_P G.1 vwCl (List.flatten [wX G xx r289.2]) H := hP
                have hD : va_D A (List.flatten [wX G xx r289.2]) := hD
                obtain ⟨ck291, h⟩ := ck h
                obtain ⟨s292, e293, h⟩ := nm_ex h
                refine va_iast hx hb hG.1 hP hD hS 3 0 rfl rfl ck291 dX11_readPart_321 (fun H locs hP hD hS => ?_)
                have hP : va_P G.1 vwCl (List.flatten [wX G xx s292]) H := by rw [e293]; exact hP
                have hD : va_D A (List.flatten [wX G xx s292]) := by rw [e293]; exact hD
                refine lv_aload_n hx hb dX11_readPart_322 rfl (lv_at hl 1 rfl) ?_
                refine lv_dup hx hb dX11_readPart_323 rfl ?_
                refine va_get (D := G.1) (cl := vwCl) (tys := tysG G) (ci := 11) (v := .int (s292.1 6)) (C := RX11) (T := TX11) (N := 37) hx hb hts iX11 hown hG.1 hP 0 rfl rfl 6 (Nat.le_of_ble_eq_true rfl) (hts _ tw_4_103) (fun _ h9 => h9) rfl dX11_readPart_324 ?_
                refine lv_iconst (v := 1) hx hb dX11_readPart_327 li_1 ?_
                refine lv_iadd hx hb dX11_readPart_328 ?_
                obtain ⟨s294, e295, h⟩ := nm_ex h
                refine va_put (D := G.1) (cl := vwCl) (tys := tysG G) (ci := 11) (v := .int ((s292.1 6) + (1 : Int32))) (ty := .int) (C := RX11) (T := TX11) (N := 37) hx hb hts iX11 tyX11 tyX11_ok nmX11 hown hG.1 hP hD hS 0 rfl rfl 6 (Nat.le_of_ble_eq_true rfl) (hts _ tw_4_103) (fun _ h9 => h9) rfl (by decide +kernel) rfl rfl (Nat.le_of_ble_eq_true rfl) dX11_readPart_329 (fun H locs hP hD hS => ?_)
                have hP : va_P G.1 vwCl (List.flatten [wX G xx s294]) H := by rw [e295]; exact hP
                have hD : va_D A (List.flatten [wX G xx s294]) := by rw [e295]; exact hD
                refine lv_goto (tgt := 339) hx hb dX11_readPart_332 (by decide) ?_
                cases h
                exact rt_v K hP hD hS dX11_readPart_339
          · have h := if_f c259 h
            refine lv_aload_n hx hb dX11_readPart_159 rfl (lv_at hl 0 rfl) ?_
            refine lv_dup hx hb dX11_readPart_160 rfl ?_
            refine va_get (D := G.1) (cl := vwCl) (tys := tysG G) (ci := 11) (v := .int (σxx.1 17)) (C := RX11) (T := TX11) (N := 37) hx hb hts iX11 hown hG.1 hP 0 rfl rfl 17 (Nat.le_of_ble_eq_true rfl) (hts _ tw_4_114) (fun _ h9 => h9) rfl dX11_readPart_161 ?_
            refine lv_iconst (v := 1) hx hb dX11_readPart_164 li_1 ?_
            refine lv_iadd hx hb dX11_readPart_165 ?_
            obtain ⟨s296, e297, h⟩ := nm_ex h
            refine va_put (D := G.1) (cl := vwCl) (tys := tysG G) (ci := 11) (v := .int ((σxx.1 17) + (1 : Int32))) (ty := .int) (C := RX11) (T := TX11) (N := 37) hx hb hts iX11 tyX11 tyX11_ok nmX11 hown hG.1 hP hD hS 0 rfl rfl 17 (Nat.le_of_ble_eq_true rfl) (hts _ tw_4_114) (fun _ h9 => h9) rfl (by decide +kernel) rfl rfl (Nat.le_of_ble_eq_true rfl) dX11_readPart_166 (fun H locs hP hD hS => ?_)
            have hP : va_P G.1 vwCl (List.flatten [wX G xx s296]) H := by rw [e297]; exact hP
            have hD : va_D A (List.flatten [wX G xx s296]) := by rw [e297]; exact hD
            refine lv_aload_n hx hb dX11_readPart_169 rfl (lv_at hl 0 rfl) ?_
            refine lv_aload_n hx hb dX11_readPart_170 rfl (lv_at hl 0 rfl) ?_
            obtain ⟨r298, hc299, h⟩ := bd_ex h
            refine sl_V (q0 := 0) (ci := 11) (C := RX11) K (mX11_untold l G F xx s296 hc299) tw_5_24 tw_1_12 tw_5_23 tw_0_7 tw_5_21 cdX11_untold ⟨Nat.le_of_ble_eq_true rfl, Nat.le_of_ble_eq_true rfl⟩ hP hD hS [0] rfl rfl rfl rfl rfl rfl rfl hl.1 (Nat.le_of_ble_eq_true rfl) ⟨Nat.zero_le _, Nat.zero_le _⟩ dX11_readPart_171 (fun H locs hP hD hS => ?_)
            have hP : va_P G.1 vwCl (List.flatten [wX G xx s296]) H := hP
            have hD : va_D A (List.flatten [wX G xx s296]) := hD
            obtain ⟨r300, hc301, h⟩ := bd_ex h
            refine sl_V (q0 := 0) (ci := 11) (C := RX11) K (mX11_sign l G F xx s296 r298 hc301) tw_5_13 tw_1_12 tw_5_12 tw_0_6 tw_5_10 cdX11_sign ⟨Nat.le_of_ble_eq_true rfl, Nat.le_of_ble_eq_true rfl⟩ hP hD hS [0] rfl rfl rfl rfl rfl rfl rfl hl.1 (Nat.le_of_ble_eq_true rfl) ⟨Nat.zero_le _, Nat.zero_le _⟩ dX11_readPart_174 (fun H locs hP hD hS => ?_)
            have hP : va_P G.1 vwCl (List.flatten [wX G xx r300.2]) H := hP
            have hD : va_D A (List.flatten [wX G xx r300.2]) := hD
            refine lv_istore_n (lv' := [(2, .int r300.1), (0, .ref (xx 0)), (1, .int x1)]) hx hb dX11_readPart_177 rfl hl (Nat.le_of_ble_eq_true rfl) rfl (fun ls hl => ?_)
            refine lv_aload_n hx hb dX11_readPart_178 rfl (lv_at hl 1 rfl) ?_
            refine lv_ldc (v := 65535) hx hb hown (hts _ tw_5_25) dX11_readPart_179 ?_
            obtain ⟨r302, hc303, h⟩ := bd_ex h
            refine sl_V (q0 := 0) (ci := 11) (C := RX11) K (mX11_sign l G F xx r300.2 (65535 : Int32) hc303) tw_5_13 tw_1_12 tw_5_12 tw_0_6 tw_5_10 cdX11_sign ⟨Nat.le_of_ble_eq_true rfl, Nat.le_of_ble_eq_true rfl⟩ hP hD hS [0] rfl rfl rfl rfl rfl rfl rfl hl.1 (Nat.le_of_ble_eq_true rfl) ⟨Nat.zero_le _, Nat.zero_le _⟩ dX11_readPart_181 (fun H locs hP hD hS => ?_)
            have hP : va_P G.1 vwCl (List.flatten [wX G xx r302.2]) H := hP
            have hD : va_D A (List.flatten [wX G xx r302.2]) := hD
            refine lv_istore_n (lv' := [(3, .int r302.1), (2, .int r300.1), (0, .ref (xx 0)), (1, .int x1)]) hx hb dX11_readPart_184 rfl hl (Nat.le_of_ble_eq_true rfl) rfl (fun ls hl => ?_)
            refine lv_aload_n hx hb dX11_readPart_185 rfl (lv_at hl 2 rfl) ?_
            refine va_get (D := G.1) (cl := vwCl) (tys := tysG G) (ci := 11) (v := .ref (xx 4)) (C := RX11) (T := TX11) (N := 37) hx hb hts iX11 hown hG.1 hP 0 rfl rfl 3 (Nat.le_of_ble_eq_true rfl) (hts _ tw_4_100) (fun _ h9 => h9) rfl dX11_readPart_186 ?_
            refine lv_iload_n hx hb dX11_readPart_189 rfl (lv_at hl 1 rfl) ?_
            refine lv_aload_n hx hb dX11_readPart_190 rfl (lv_at hl 2 rfl) ?_
            refine va_get (D := G.1) (cl := vwCl) (tys := tysG G) (ci := 11) (v := .int (r302.2.1 18)) (C := RX11) (T := TX11) (N := 37) hx hb hts iX11 hown hG.1 hP 0 rfl rfl 18 (Nat.le_of_ble_eq_true rfl) (hts _ tw_4_115) (fun _ h9 => h9) rfl dX11_readPart_191 ?_
            refine lv_bipush (v := -9) hx hb dX11_readPart_194 lb_m9 ?_
            refine lv_icmp_ne (tgt := 203) hx hb dX11_readPart_196 (by decide) (fun c304 => ?_) (fun c304 => ?_)
            · have h := if_f c304 h
              refine lv_aload_n hx hb dX11_readPart_203 rfl (lv_at hl 2 rfl) ?_
              refine va_get (D := G.1) (cl := vwCl) (tys := tysG G) (ci := 11) (v := .ref (xx 4)) (C := RX11) (T := TX11) (N := 37) hx hb hts iX11 hown hG.1 hP 0 rfl rfl 3 (Nat.le_of_ble_eq_true rfl) (hts _ tw_4_100) (fun _ h9 => h9) rfl dX11_readPart_204 ?_
              refine lv_iload_n hx hb dX11_readPart_207 rfl (lv_at hl 1 rfl) ?_
              obtain ⟨ck305, h⟩ := ck h
              refine va_iald hx hb hG.1 hP 4 0 rfl rfl ck305 dX11_readPart_208 ?_
              obtain ⟨s306, e307, h⟩ := nm_ex h
              refine va_iast hx hb hG.1 hP hD hS 4 0 rfl rfl ck305 dX11_readPart_209 (fun H locs hP hD hS => ?_)
              have hP : va_P G.1 vwCl (List.flatten [wX G xx s306]) H := by rw [e307]; exact hP
              have hD : va_D A (List.flatten [wX G xx s306]) := by rw [e307]; exact hD
              refine lv_goto (tgt := 339) hx hb dX11_readPart_210 (by decide) ?_
              cases h
              exact rt_v K hP hD hS dX11_readPart_339
            · have h := if_t c304 h
              refine lv_iload_n hx hb dX11_readPart_199 rfl (lv_at hl 0 rfl) ?_
              refine lv_goto (tgt := 209) hx hb dX11_readPart_200 (by decide) ?_
              obtain ⟨ck308, h⟩ := ck h
              obtain ⟨s309, e310, h⟩ := nm_ex h
              refine va_iast hx hb hG.1 hP hD hS 4 0 rfl rfl ck308 dX11_readPart_209 (fun H locs hP hD hS => ?_)
              have hP : va_P G.1 vwCl (List.flatten [wX G xx s309]) H := by rw [e310]; exact hP
              have hD : va_D A (List.flatten [wX G xx s309]) := by rw [e310]; exact hD
              refine lv_goto (tgt := 339) hx hb dX11_readPart_210 (by decide) ?_
              cases h
              exact rt_v K hP hD hS dX11_readPart_339
      · have h := if_t c219 h
        refine lv_aload_n hx hb dX11_readPart_28 rfl (lv_at hl 0 rfl) ?_
        refine va_get (D := G.1) (cl := vwCl) (tys := tysG G) (ci := 11) (v := .int (σxx.1 5)) (C := RX11) (T := TX11) (N := 37) hx hb hts iX11 hown hG.1 hP 0 rfl rfl 5 (Nat.le_of_ble_eq_true rfl) (hts _ tw_4_102) (fun _ h9 => h9) rfl dX11_readPart_29 ?_
        refine lv_iconst (v := 3) hx hb dX11_readPart_32 li_3 ?_
        refine lv_icmp_ge (tgt := 146) hx hb dX11_readPart_33 (by decide) (fun c311 => ?_) (fun c311 => ?_)
        · have h := if_t c311 h
          refine lv_iload_n hx hb dX11_readPart_146 rfl (lv_at hl 1 rfl) ?_
          refine lv_bipush (v := 76) hx hb dX11_readPart_147 lb_76 ?_
          refine lv_icmp_ne (tgt := 213) hx hb dX11_readPart_149 (by decide) (fun c312 => ?_) (fun c312 => ?_)
          · have h := if_f c312 h
            refine lv_iload_n hx hb dX11_readPart_213 rfl (lv_at hl 1 rfl) ?_
            refine lv_bipush (v := 79) hx hb dX11_readPart_214 lb_79 ?_
            refine lv_icmp_ne (tgt := 335) hx hb dX11_readPart_216 (by decide) (fun c313 => ?_) (fun c313 => ?_)
            · have h := if_f c313 h
              refine lv_aload_n hx hb dX11_readPart_335 rfl (lv_at hl 0 rfl) ?_
              obtain ⟨r314, hc315, h⟩ := bd_ex h
              refine sl_V (q0 := 0) (ci := 11) (C := RX11) K (mX11_fail l G F xx σxx hc315) tw_5_5 tw_1_12 tw_5_4 tw_0_4 tw_5_2 cdX11_fail ⟨Nat.le_of_ble_eq_true rfl, Nat.le_of_ble_eq_true rfl⟩ hP hD hS [0] rfl rfl rfl rfl rfl rfl rfl hl.1 (Nat.le_of_ble_eq_true rfl) ⟨Nat.zero_le _, Nat.zero_le _⟩ dX11_readPart_336 (fun H locs hP hD hS => ?_)
              have hP : va_P G.1 vwCl (List.flatten [wX G xx r314]) H := hP
              have hD : va_D A (List.flatten [wX G xx r314]) := hD
              cases h
              exact rt_v K hP hD hS dX11_readPart_339
            · have h := if_t c313 h
              refine lv_aload_n hx hb dX11_readPart_219 rfl (lv_at hl 0 rfl) ?_
              refine va_get (D := G.1) (cl := vwCl) (tys := tysG G) (ci := 11) (v := .int (σxx.1 6)) (C := RX11) (T := TX11) (N := 37) hx hb hts iX11 hown hG.1 hP 0 rfl rfl 6 (Nat.le_of_ble_eq_true rfl) (hts _ tw_4_103) (fun _ h9 => h9) rfl dX11_readPart_220 ?_
              refine lv_iconst (v := 4) hx hb dX11_readPart_223 li_4 ?_
              refine lv_icmp_ge (tgt := 335) hx hb dX11_readPart_224 (by decide) (fun c316 => ?_) (fun c316 => ?_)
              · have h := if_t c316 h
                refine lv_aload_n hx hb dX11_readPart_335 rfl (lv_at hl 0 rfl) ?_
                obtain ⟨r317, hc318, h⟩ := bd_ex h
                refine sl_V (q0 := 0) (ci := 11) (C := RX11) K (mX11_fail l G F xx σxx hc318) tw_5_5 tw_1_12 tw_5_4 tw_0_4 tw_5_2 cdX11_fail ⟨Nat.le_of_ble_eq_true rfl, Nat.le_of_ble_eq_true rfl⟩ hP hD hS [0] rfl rfl rfl rfl rfl rfl rfl hl.1 (Nat.le_of_ble_eq_true rfl) ⟨Nat.zero_le _, Nat.zero_le _⟩ dX11_readPart_336 (fun H locs hP hD hS => ?_)
                have hP : va_P G.1 vwCl (List.flatten [wX G xx r317]) H := hP
                have hD : va_D A (List.flatten [wX G xx r317]) := hD
                cases h
                exact rt_v K hP hD hS dX11_readPart_339
              · have h := if_f c316 h
                refine lv_aload_n hx hb dX11_readPart_227 rfl (lv_at hl 0 rfl) ?_
                refine lv_dup hx hb dX11_readPart_228 rfl ?_
                refine va_get (D := G.1) (cl := vwCl) (tys := tysG G) (ci := 11) (v := .int (σxx.1 17)) (C := RX11) (T := TX11) (N := 37) hx hb hts iX11 hown hG.1 hP 0 rfl rfl 17 (Nat.le_of_ble_eq_true rfl) (hts _ tw_4_114) (fun _ h9 => h9) rfl dX11_readPart_229 ?_
                refine lv_iconst (v := 1) hx hb dX11_readPart_232 li_1 ?_
                refine lv_iadd hx hb dX11_readPart_233 ?_
                obtain ⟨s319, e320, h⟩ := nm_ex h
                refine va_put (D := G.1) (cl := vwCl) (tys := tysG G) (ci := 11) (v := .int ((σxx.1 17) + (1 : Int32))) (ty := .int) (C := RX11) (T := TX11) (N := 37) hx hb hts iX11 tyX11 tyX11_ok nmX11 hown hG.1 hP hD hS 0 rfl rfl 17 (Nat.le_of_ble_eq_true rfl) (hts _ tw_4_114) (fun _ h9 => h9) rfl (by decide +kernel) rfl rfl (Nat.le_of_ble_eq_true rfl) dX11_readPart_234 (fun H locs hP hD hS => ?_)
                have hP : va_P G.1 vwCl (List.flatten [wX G xx s319]) H := by rw [e320]; exact hP
                have hD : va_D A (List.flatten [wX G xx s319]) := by rw [e320]; exact hD
                refine lv_iconst (v := 4) hx hb dX11_readPart_237 li_4 ?_
                refine lv_aload_n hx hb dX11_readPart_238 rfl (lv_at hl 0 rfl) ?_
                refine va_get (D := G.1) (cl := vwCl) (tys := tysG G) (ci := 11) (v := .int (s319.1 6)) (C := RX11) (T := TX11) (N := 37) hx hb hts iX11 hown hG.1 hP 0 rfl rfl 6 (Nat.le_of_ble_eq_true rfl) (hts _ tw_4_103) (fun _ h9 => h9) rfl dX11_readPart_239 ?_
                refine lv_imul hx hb dX11_readPart_242 ?_
                refine lv_istore_n (lv' := [(2, .int ((4 : Int32) * (s319.1 6))), (0, .ref (xx 0)), (1, .int x1)]) hx hb dX11_readPart_243 rfl hl (Nat.le_of_ble_eq_true rfl) rfl (fun ls hl => ?_)
                refine lv_aload_n hx hb dX11_readPart_244 rfl (lv_at hl 1 rfl) ?_
                refine va_get (D := G.1) (cl := vwCl) (tys := tysG G) (ci := 11) (v := .ref (xx 3)) (C := RX11) (T := TX11) (N := 37) hx hb hts iX11 hown hG.1 hP 0 rfl rfl 2 (Nat.le_of_ble_eq_true rfl) (hts _ tw_4_99) (fun _ h9 => h9) rfl dX11_readPart_245 ?_
                refine lv_iload_n hx hb dX11_readPart_248 rfl (lv_at hl 0 rfl) ?_
                refine lv_aload_n hx hb dX11_readPart_249 rfl (lv_at hl 1 rfl) ?_
                refine lv_iconst (v := 0) hx hb dX11_readPart_250 li_0 ?_
                refine lv_bipush (v := 9) hx hb dX11_readPart_251 lb_9 ?_
                obtain ⟨r321, hc322, h⟩ := bd_ex h
                refine sl_S K (mX11_bits l G F (0 : Int32) (9 : Int32) hc322) tw_5_20 tw_1_12 tw_5_19 tw_5_18 cdX11_bits ⟨Nat.le_of_ble_eq_true rfl, Nat.le_of_ble_eq_true rfl⟩ hP hD hS [] rfl rfl rfl rfl hl.1 (Nat.le_of_ble_eq_true rfl) ⟨Nat.zero_le _, Nat.zero_le _⟩ dX11_readPart_253 (fun H locs hP hD hS => ?_)
                have hP : va_P G.1 vwCl (List.flatten [wX G xx s319]) H := hP
                have hD : va_D A (List.flatten [wX G xx s319]) := hD
                obtain ⟨r323, hc324, h⟩ := bd_ex h
                refine sl_V (q0 := 0) (ci := 11) (C := RX11) K (mX11_sign l G F xx s319 r321 hc324) tw_5_13 tw_1_12 tw_5_12 tw_0_6 tw_5_10 cdX11_sign ⟨Nat.le_of_ble_eq_true rfl, Nat.le_of_ble_eq_true rfl⟩ hP hD hS [0] rfl rfl rfl rfl rfl rfl rfl hl.1 (Nat.le_of_ble_eq_true rfl) ⟨Nat.zero_le _, Nat.zero_le _⟩ dX11_readPart_256 (fun H locs hP hD hS => ?_)
                have hP : va_P G.1 vwCl (List.flatten [wX G xx r323.2]) H := hP
                have hD : va_D A (List.flatten [wX G xx r323.2]) := hD
                obtain ⟨ck325, h⟩ := ck h
                obtain ⟨s326, e327, h⟩ := nm_ex h
                refine va_iast hx hb hG.1 hP hD hS 3 0 rfl rfl ck325 dX11_readPart_259 (fun H locs hP hD hS => ?_)
                have hP : va_P G.1 vwCl (List.flatten [wX G xx s326]) H := by rw [e327]; exact hP
                have hD : va_D A (List.flatten [wX G xx s326]) := by rw [e327]; exact hD
                refine lv_aload_n hx hb dX11_readPart_260 rfl (lv_at hl 1 rfl) ?_
                refine va_get (D := G.1) (cl := vwCl) (tys := tysG G) (ci := 11) (v := .ref (xx 3)) (C := RX11) (T := TX11) (N := 37) hx hb hts iX11 hown hG.1 hP 0 rfl rfl 2 (Nat.le_of_ble_eq_true rfl) (hts _ tw_4_99) (fun _ h9 => h9) rfl dX11_readPart_261 ?_
                refine lv_iload_n hx hb dX11_readPart_264 rfl (lv_at hl 0 rfl) ?_
                refine lv_iconst (v := 1) hx hb dX11_readPart_265 li_1 ?_
                refine lv_iadd hx hb dX11_readPart_266 ?_
                refine lv_aload_n hx hb dX11_readPart_267 rfl (lv_at hl 1 rfl) ?_
                refine lv_aload_n hx hb dX11_readPart_268 rfl (lv_at hl 1 rfl) ?_
                refine va_get (D := G.1) (cl := vwCl) (tys := tysG G) (ci := 11) (v := .ref (xx 3)) (C := RX11) (T := TX11) (N := 37) hx hb hts iX11 hown hG.1 hP 0 rfl rfl 2 (Nat.le_of_ble_eq_true rfl) (hts _ tw_4_99) (fun _ h9 => h9) rfl dX11_readPart_269 ?_
                refine lv_iload_n hx hb dX11_readPart_272 rfl (lv_at hl 0 rfl) ?_
                refine va_iald hx hb hG.1 hP 3 0 rfl rfl ck325 dX11_readPart_273 ?_
                refine lv_bipush (v := 9) hx hb dX11_readPart_274 lb_9 ?_
                obtain ⟨r328, hc329, h⟩ := bd_ex h
                refine sl_S K (mX11_bits l G F (s326.2.1 2 ((4 : Int32) * (s319.1 6)).toNatClampNeg) (9 : Int32) hc329) tw_5_20 tw_1_12 tw_5_19 tw_5_18 cdX11_bits ⟨Nat.le_of_ble_eq_true rfl, Nat.le_of_ble_eq_true rfl⟩ hP hD hS [] rfl rfl rfl rfl hl.1 (Nat.le_of_ble_eq_true rfl) ⟨Nat.zero_le _, Nat.zero_le _⟩ dX11_readPart_276 (fun H locs hP hD hS => ?_)
                have hP : va_P G.1 vwCl (List.flatten [wX G xx s326]) H := hP
                have hD : va_D A (List.flatten [wX G xx s326]) := hD
                obtain ⟨r330, hc331, h⟩ := bd_ex h
                refine sl_V (q0 := 0) (ci := 11) (C := RX11) K (mX11_sign l G F xx s326 r328 hc331) tw_5_13 tw_1_12 tw_5_12 tw_0_6 tw_5_10 cdX11_sign ⟨Nat.le_of_ble_eq_true rfl, Nat.le_of_ble_eq_true rfl⟩ hP hD hS [0] rfl rfl rfl rfl rfl rfl rfl hl.1 (Nat.le_of_ble_eq_true rfl) ⟨Nat.zero_le _, Nat.zero_le _⟩ dX11_readPart_279 (fun H locs hP hD hS => ?_)
                have hP : va_P G.1 vwCl (List.flatten [wX G xx r330.2]) H := hP
                have hD : va_D A (List.flatten [wX G xx r330.2]) := hD
                obtain ⟨ck332, h⟩ := ck h
                obtain ⟨s333, e334, h⟩ := nm_ex h
                refine va_iast hx hb hG.1 hP hD hS 3 0 rfl rfl ck332 dX11_readPart_282 (fun H locs hP hD hS => ?_)
                have hP : va_P G.1 vwCl (List.flatten [wX G xx s333]) H := by rw [e334]; exact hP
                have hD : va_D A (List.flatten [wX G xx s333]) := by rw [e334]; exact hD
                refine lv_aload_n hx hb dX11_readPart_283 rfl (lv_at hl 1 rfl) ?_
                refine va_get (D := G.1) (cl := vwCl) (tys := tysG G) (ci := 11) (v := .ref (xx 3)) (C := RX11) (T := TX11) (N := 37) hx hb hts iX11 hown hG.1 hP 0 rfl rfl 2 (Nat.le_of_ble_eq_true rfl) (hts _ tw_4_99) (fun _ h9 => h9) rfl dX11_readPart_284 ?_
                refine lv_iload_n hx hb dX11_readPart_287 rfl (lv_at hl 0 rfl) ?_
                refine lv_iconst (v := 2) hx hb dX11_readPart_288 li_2 ?_
                refine lv_iadd hx hb dX11_readPart_289 ?_
                refine lv_aload_n hx hb dX11_readPart_290 rfl (lv_at hl 1 rfl) ?_
                refine lv_ldc (v := 65535) hx hb hown (hts _ tw_5_25) dX11_readPart_291 ?_
                obtain ⟨r335, hc336, h⟩ := bd_ex h
                refine sl_V (q0 := 0) (ci := 11) (C := RX11) K (mX11_sign l G F xx s333 (65535 : Int32) hc336) tw_5_13 tw_1_12 tw_5_12 tw_0_6 tw_5_10 cdX11_sign ⟨Nat.le_of_ble_eq_true rfl, Nat.le_of_ble_eq_true rfl⟩ hP hD hS [0] rfl rfl rfl rfl rfl rfl rfl hl.1 (Nat.le_of_ble_eq_true rfl) ⟨Nat.zero_le _, Nat.zero_le _⟩ dX11_readPart_293 (fun H locs hP hD hS => ?_)
                have hP : va_P G.1 vwCl (List.flatten [wX G xx r335.2]) H := hP
                have hD : va_D A (List.flatten [wX G xx r335.2]) := hD
                obtain ⟨ck337, h⟩ := ck h
                obtain ⟨s338, e339, h⟩ := nm_ex h
                refine va_iast hx hb hG.1 hP hD hS 3 0 rfl rfl ck337 dX11_readPart_296 (fun H locs hP hD hS => ?_)
                have hP : va_P G.1 vwCl (List.flatten [wX G xx s338]) H := by rw [e339]; exact hP
                have hD : va_D A (List.flatten [wX G xx s338]) := by rw [e339]; exact hD
                refine lv_aload_n hx hb dX11_readPart_297 rfl (lv_at hl 1 rfl) ?_
                refine va_get (D := G.1) (cl := vwCl) (tys := tysG G) (ci := 11) (v := .ref (xx 3)) (C := RX11) (T := TX11) (N := 37) hx hb hts iX11 hown hG.1 hP 0 rfl rfl 2 (Nat.le_of_ble_eq_true rfl) (hts _ tw_4_99) (fun _ h9 => h9) rfl dX11_readPart_298 ?_
                refine lv_iload_n hx hb dX11_readPart_301 rfl (lv_at hl 0 rfl) ?_
                refine lv_iconst (v := 3) hx hb dX11_readPart_302 li_3 ?_
                refine lv_iadd hx hb dX11_readPart_303 ?_
                refine lv_aload_n hx hb dX11_readPart_304 rfl (lv_at hl 1 rfl) ?_
                refine lv_aload_n hx hb dX11_readPart_305 rfl (lv_at hl 1 rfl) ?_
                refine va_get (D := G.1) (cl := vwCl) (tys := tysG G) (ci := 11) (v := .ref (xx 3)) (C := RX11) (T := TX11) (N := 37) hx hb hts iX11 hown hG.1 hP 0 rfl rfl 2 (Nat.le_of_ble_eq_true rfl) (hts _ tw_4_99) (fun _ h9 => h9) rfl dX11_readPart_306 ?_
                refine lv_iload_n hx hb dX11_readPart_309 rfl (lv_at hl 0 rfl) ?_
                refine lv_iconst (v := 2) hx hb dX11_readPart_310 li_2 ?_
                refine lv_iadd hx hb dX11_readPart_311 ?_
                refine va_iald hx hb hG.1 hP 3 0 rfl rfl ck337 dX11_readPart_312 ?_
                refine lv_bipush (v := 15) hx hb dX11_readPart_313 lb_15 ?_
                obtain ⟨r340, hc341, h⟩ := bd_ex h
                refine sl_S K (mX11_bits l G F (s338.2.1 2 (((4 : Int32) * (s319.1 6)) + (2 : Int32)).toNatClampNeg) (15 : Int32) hc341) tw_5_20 tw_1_12 tw_5_19 tw_5_18 cdX11_bits ⟨Nat.le_of_ble_eq_true rfl, Nat.le_of_ble_eq_true rfl⟩ hP hD hS [] rfl rfl rfl rfl hl.1 (Nat.le_of_ble_eq_true rfl) ⟨Nat.zero_le _, Nat.zero_le _⟩ dX11_readPart_315 (fun H locs hP hD hS => ?_)
                have hP : va_P G.1 vwCl (List.flatten [wX G xx s338]) H := hP
                have hD : va_D A (List.flatten [wX G xx s338]) := hD
                obtain ⟨r342, hc343, h⟩ := bd_ex h
                refine sl_V (q0 := 0) (ci := 11) (C := RX11) K (mX11_sign l G F xx s338 r340 hc343) tw_5_13 tw_1_12 tw_5_12 tw_0_6 tw_5_10 cdX11_sign ⟨Nat.le_of_ble_eq_true rfl, Nat.le_of_ble_eq_true rfl⟩ hP hD hS [0] rfl rfl rfl rfl rfl rfl rfl hl.1 (Nat.le_of_ble_eq_true rfl) ⟨Nat.zero_le _, Nat.zero_le _⟩ dX11_readPart_318 (fun H locs hP hD hS => ?_)
                have hP : va_P G.1 vwCl (List.flatten [wX G xx r342.2]) H := hP
                have hD : va_D A (List.flatten [wX G xx r342.2]) := hD
                obtain ⟨ck344, h⟩ := ck h
                obtain ⟨s345, e346, h⟩ := nm_ex h
                refine va_iast hx hb hG.1 hP hD hS 3 0 rfl rfl ck344 dX11_readPart_321 (fun H locs hP hD hS => ?_)
                have hP : va_P G.1 vwCl (List.flatten [wX G xx s345]) H := by rw [e346]; exact hP
                have hD : va_D A (List.flatten [wX G xx s345]) := by rw [e346]; exact hD
                refine lv_aload_n hx hb dX11_readPart_322 rfl (lv_at hl 1 rfl) ?_
                refine lv_dup hx hb dX11_readPart_323 rfl ?_
                refine va_get (D := G.1) (cl := vwCl) (tys := tysG G) (ci := 11) (v := .int (s345.1 6)) (C := RX11) (T := TX11) (N := 37) hx hb hts iX11 hown hG.1 hP 0 rfl rfl 6 (Nat.le_of_ble_eq_true rfl) (hts _ tw_4_103) (fun _ h9 => h9) rfl dX11_readPart_324 ?_
                refine lv_iconst (v := 1) hx hb dX11_readPart_327 li_1 ?_
                refine lv_iadd hx hb dX11_readPart_328 ?_
                obtain ⟨s347, e348, h⟩ := nm_ex h
                refine va_put (D := G.1) (cl := vwCl) (tys := tysG G) (ci := 11) (v := .int ((s345.1 6) + (1 : Int32))) (ty := .int) (C := RX11) (T := TX11) (N := 37) hx hb hts iX11 tyX11 tyX11_ok nmX11 hown hG.1 hP hD hS 0 rfl rfl 6 (Nat.le_of_ble_eq_true rfl) (hts _ tw_4_103) (fun _ h9 => h9) rfl (by decide +kernel) rfl rfl (Nat.le_of_ble_eq_true rfl) dX11_readPart_329 (fun H locs hP hD hS => ?_)
                have hP : va_P G.1 vwCl (List.flatten [wX G xx s347]) H := by rw [e348]; exact hP
                have hD : va_D A (List.flatten [wX G xx s347]) := by rw [e348]; exact hD
                refine lv_goto (tgt := 339) hx hb dX11_readPart_332 (by decide) ?_
                cases h
                exact rt_v K hP hD hS dX11_readPart_339
          · have h := if_t c312 h
            refine lv_aload_n hx hb dX11_readPart_152 rfl (lv_at hl 0 rfl) ?_
            obtain ⟨r349, hc350, h⟩ := bd_ex h
            refine sl_V (q0 := 0) (ci := 11) (C := RX11) K (mX11_untold l G F xx σxx hc350) tw_5_24 tw_1_12 tw_5_23 tw_0_7 tw_5_21 cdX11_untold ⟨Nat.le_of_ble_eq_true rfl, Nat.le_of_ble_eq_true rfl⟩ hP hD hS [0] rfl rfl rfl rfl rfl rfl rfl hl.1 (Nat.le_of_ble_eq_true rfl) ⟨Nat.zero_le _, Nat.zero_le _⟩ dX11_readPart_153 (fun H locs hP hD hS => ?_)
            have hP : va_P G.1 vwCl (List.flatten [wX G xx σxx]) H := hP
            have hD : va_D A (List.flatten [wX G xx σxx]) := hD
            refine lv_if_eq (tgt := 213) hx hb dX11_readPart_156 (by decide) (fun c351 => ?_) (fun c351 => ?_)
            · have h := if_t c351 h
              refine lv_iload_n hx hb dX11_readPart_213 rfl (lv_at hl 1 rfl) ?_
              refine lv_bipush (v := 79) hx hb dX11_readPart_214 lb_79 ?_
              refine lv_icmp_ne (tgt := 335) hx hb dX11_readPart_216 (by decide) (fun c352 => ?_) (fun c352 => ?_)
              · have h := if_f c352 h
                refine lv_aload_n hx hb dX11_readPart_335 rfl (lv_at hl 0 rfl) ?_
                obtain ⟨r353, hc354, h⟩ := bd_ex h
                refine sl_V (q0 := 0) (ci := 11) (C := RX11) K (mX11_fail l G F xx σxx hc354) tw_5_5 tw_1_12 tw_5_4 tw_0_4 tw_5_2 cdX11_fail ⟨Nat.le_of_ble_eq_true rfl, Nat.le_of_ble_eq_true rfl⟩ hP hD hS [0] rfl rfl rfl rfl rfl rfl rfl hl.1 (Nat.le_of_ble_eq_true rfl) ⟨Nat.zero_le _, Nat.zero_le _⟩ dX11_readPart_336 (fun H locs hP hD hS => ?_)
                have hP : va_P G.1 vwCl (List.flatten [wX G xx r353]) H := hP
                have hD : va_D A (List.flatten [wX G xx r353]) := hD
                cases h
                exact rt_v K hP hD hS dX11_readPart_339
              · have h := if_t c352 h
                refine lv_aload_n hx hb dX11_readPart_219 rfl (lv_at hl 0 rfl) ?_
                refine va_get (D := G.1) (cl := vwCl) (tys := tysG G) (ci := 11) (v := .int (σxx.1 6)) (C := RX11) (T := TX11) (N := 37) hx hb hts iX11 hown hG.1 hP 0 rfl rfl 6 (Nat.le_of_ble_eq_true rfl) (hts _ tw_4_103) (fun _ h9 => h9) rfl dX11_readPart_220 ?_
                refine lv_iconst (v := 4) hx hb dX11_readPart_223 li_4 ?_
                refine lv_icmp_ge (tgt := 335) hx hb dX11_readPart_224 (by decide) (fun c355 => ?_) (fun c355 => ?_)
                · have h := if_t c355 h
                  refine lv_aload_n hx hb dX11_readPart_335 rfl (lv_at hl 0 rfl) ?_
                  obtain ⟨r356, hc357, h⟩ := bd_ex h
                  refine sl_V (q0 := 0) (ci := 11) (C := RX11) K (mX11_fail l G F xx σxx hc357) tw_5_5 tw_1_12 tw_5_4 tw_0_4 tw_5_2 cdX11_fail ⟨Nat.le_of_ble_eq_true rfl, Nat.le_of_ble_eq_true rfl⟩ hP hD hS [0] rfl rfl rfl rfl rfl rfl rfl hl.1 (Nat.le_of_ble_eq_true rfl) ⟨Nat.zero_le _, Nat.zero_le _⟩ dX11_readPart_336 (fun H locs hP hD hS => ?_)
                  have hP : va_P G.1 vwCl (List.flatten [wX G xx r356]) H := hP
                  have hD : va_D A (List.flatten [wX G xx r356]) := hD
                  cases h
                  exact rt_v K hP hD hS dX11_readPart_339
                · have h := if_f c355 h
                  refine lv_aload_n hx hb dX11_readPart_227 rfl (lv_at hl 0 rfl) ?_
                  refine lv_dup hx hb dX11_readPart_228 rfl ?_
                  refine va_get (D := G.1) (cl := vwCl) (tys := tysG G) (ci := 11) (v := .int (σxx.1 17)) (C := RX11) (T := TX11) (N := 37) hx hb hts iX11 hown hG.1 hP 0 rfl rfl 17 (Nat.le_of_ble_eq_true rfl) (hts _ tw_4_114) (fun _ h9 => h9) rfl dX11_readPart_229 ?_
                  refine lv_iconst (v := 1) hx hb dX11_readPart_232 li_1 ?_
                  refine lv_iadd hx hb dX11_readPart_233 ?_
                  obtain ⟨s358, e359, h⟩ := nm_ex h
                  refine va_put (D := G.1) (cl := vwCl) (tys := tysG G) (ci := 11) (v := .int ((σxx.1 17) + (1 : Int32))) (ty := .int) (C := RX11) (T := TX11) (N := 37) hx hb hts iX11 tyX11 tyX11_ok nmX11 hown hG.1 hP hD hS 0 rfl rfl 17 (Nat.le_of_ble_eq_true rfl) (hts _ tw_4_114) (fun _ h9 => h9) rfl (by decide +kernel) rfl rfl (Nat.le_of_ble_eq_true rfl) dX11_readPart_234 (fun H locs hP hD hS => ?_)
                  have hP : va_P G.1 vwCl (List.flatten [wX G xx s358]) H := by rw [e359]; exact hP
                  have hD : va_D A (List.flatten [wX G xx s358]) := by rw [e359]; exact hD
                  refine lv_iconst (v := 4) hx hb dX11_readPart_237 li_4 ?_
                  refine lv_aload_n hx hb dX11_readPart_238 rfl (lv_at hl 0 rfl) ?_
                  refine va_get (D := G.1) (cl := vwCl) (tys := tysG G) (ci := 11) (v := .int (s358.1 6)) (C := RX11) (T := TX11) (N := 37) hx hb hts iX11 hown hG.1 hP 0 rfl rfl 6 (Nat.le_of_ble_eq_true rfl) (hts _ tw_4_103) (fun _ h9 => h9) rfl dX11_readPart_239 ?_
                  refine lv_imul hx hb dX11_readPart_242 ?_
                  refine lv_istore_n (lv' := [(2, .int ((4 : Int32) * (s358.1 6))), (0, .ref (xx 0)), (1, .int x1)]) hx hb dX11_readPart_243 rfl hl (Nat.le_of_ble_eq_true rfl) rfl (fun ls hl => ?_)
                  refine lv_aload_n hx hb dX11_readPart_244 rfl (lv_at hl 1 rfl) ?_
                  refine va_get (D := G.1) (cl := vwCl) (tys := tysG G) (ci := 11) (v := .ref (xx 3)) (C := RX11) (T := TX11) (N := 37) hx hb hts iX11 hown hG.1 hP 0 rfl rfl 2 (Nat.le_of_ble_eq_true rfl) (hts _ tw_4_99) (fun _ h9 => h9) rfl dX11_readPart_245 ?_
                  refine lv_iload_n hx hb dX11_readPart_248 rfl (lv_at hl 0 rfl) ?_
                  refine lv_aload_n hx hb dX11_readPart_249 rfl (lv_at hl 1 rfl) ?_
                  refine lv_iconst (v := 0) hx hb dX11_readPart_250 li_0 ?_
                  refine lv_bipush (v := 9) hx hb dX11_readPart_251 lb_9 ?_
                  obtain ⟨r360, hc361, h⟩ := bd_ex h
                  refine sl_S K (mX11_bits l G F (0 : Int32) (9 : Int32) hc361) tw_5_20 tw_1_12 tw_5_19 tw_5_18 cdX11_bits ⟨Nat.le_of_ble_eq_true rfl, Nat.le_of_ble_eq_true rfl⟩ hP hD hS [] rfl rfl rfl rfl hl.1 (Nat.le_of_ble_eq_true rfl) ⟨Nat.zero_le _, Nat.zero_le _⟩ dX11_readPart_253 (fun H locs hP hD hS => ?_)
                  have hP : va_P G.1 vwCl (List.flatten [wX G xx s358]) H := hP
                  have hD : va_D A (List.flatten [wX G xx s358]) := hD
                  obtain ⟨r362, hc363, h⟩ := bd_ex h
                  refine sl_V (q0 := 0) (ci := 11) (C := RX11) K (mX11_sign l G F xx s358 r360 hc363) tw_5_13 tw_1_12 tw_5_12 tw_0_6 tw_5_10 cdX11_sign ⟨Nat.le_of_ble_eq_true rfl, Nat.le_of_ble_eq_true rfl⟩ hP hD hS [0] rfl rfl rfl rfl rfl rfl rfl hl.1 (Nat.le_of_ble_eq_true rfl) ⟨Nat.zero_le _, Nat.zero_le _⟩ dX11_readPart_256 (fun H locs hP hD hS => ?_)
                  have hP : va_P G.1 vwCl (List.flatten [wX G xx r362.2]) H := hP
                  have hD : va_D A (List.flatten [wX G xx r362.2]) := hD
                  obtain ⟨ck364, h⟩ := ck h
                  obtain ⟨s365, e366, h⟩ := nm_ex h
                  refine va_iast hx hb hG.1 hP hD hS 3 0 rfl rfl ck364 dX11_readPart_259 (fun H locs hP hD hS => ?_)
                  have hP : va_P G.1 vwCl (List.flatten [wX G xx s365]) H := by rw [e366]; exact hP
                  have hD : va_D A (List.flatten [wX G xx s365]) := by rw [e366]; exact hD
                  refine lv_aload_n hx hb dX11_readPart_260 rfl (lv_at hl 1 rfl) ?_
                  refine va_get (D := G.1) (cl := vwCl) (tys := tysG G) (ci := 11) (v := .ref (xx 3)) (C := RX11) (T := TX11) (N := 37) hx hb hts iX11 hown hG.1 hP 0 rfl rfl 2 (Nat.le_of_ble_eq_true rfl) (hts _ tw_4_99) (fun _ h9 => h9) rfl dX11_readPart_261 ?_
                  refine lv_iload_n hx hb dX11_readPart_264 rfl (lv_at hl 0 rfl) ?_
                  refine lv_iconst (v := 1) hx hb dX11_readPart_265 li_1 ?_
                  refine lv_iadd hx hb dX11_readPart_266 ?_
                  refine lv_aload_n hx hb dX11_readPart_267 rfl (lv_at hl 1 rfl) ?_
                  refine lv_aload_n hx hb dX11_readPart_268 rfl (lv_at hl 1 rfl) ?_
                  refine va_get (D := G.1) (cl := vwCl) (tys := tysG G) (ci := 11) (v := .ref (xx 3)) (C := RX11) (T := TX11) (N := 37) hx hb hts iX11 hown hG.1 hP 0 rfl rfl 2 (Nat.le_of_ble_eq_true rfl) (hts _ tw_4_99) (fun _ h9 => h9) rfl dX11_readPart_269 ?_
                  refine lv_iload_n hx hb dX11_readPart_272 rfl (lv_at hl 0 rfl) ?_
                  refine va_iald hx hb hG.1 hP 3 0 rfl rfl ck364 dX11_readPart_273 ?_
                  refine lv_bipush (v := 9) hx hb dX11_readPart_274 lb_9 ?_
                  obtain ⟨r367, hc368, h⟩ := bd_ex h
                  refine sl_S K (mX11_bits l G F (s365.2.1 2 ((4 : Int32) * (s358.1 6)).toNatClampNeg) (9 : Int32) hc368) tw_5_20 tw_1_12 tw_5_19 tw_5_18 cdX11_bits ⟨Nat.le_of_ble_eq_true rfl, Nat.le_of_ble_eq_true rfl⟩ hP hD hS [] rfl rfl rfl rfl hl.1 (Nat.le_of_ble_eq_true rfl) ⟨Nat.zero_le _, Nat.zero_le _⟩ dX11_readPart_276 (fun H locs hP hD hS => ?_)
                  have hP : va_P G.1 vwCl (List.flatten [wX G xx s365]) H := hP
                  have hD : va_D A (List.flatten [wX G xx s365]) := hD
                  obtain ⟨r369, hc370, h⟩ := bd_ex h
                  refine sl_V (q0 := 0) (ci := 11) (C := RX11) K (mX11_sign l G F xx s365 r367 hc370) tw_5_13 tw_1_12 tw_5_12 tw_0_6 tw_5_10 cdX11_sign ⟨Nat.le_of_ble_eq_true rfl, Nat.le_of_ble_eq_true rfl⟩ hP hD hS [0] rfl rfl rfl rfl rfl rfl rfl hl.1 (Nat.le_of_ble_eq_true rfl) ⟨Nat.zero_le _, Nat.zero_le _⟩ dX11_readPart_279 (fun H locs hP hD hS => ?_)
                  have hP : va_P G.1 vwCl (List.flatten [wX G xx r369.2]) H := hP
                  have hD : va_D A (List.flatten [wX G xx r369.2]) := hD
                  obtain ⟨ck371, h⟩ := ck h
                  obtain ⟨s372, e373, h⟩ := nm_ex h
                  refine va_iast hx hb hG.1 hP hD hS 3 0 rfl rfl ck371 dX11_readPart_282 (fun H locs hP hD hS => ?_)
                  have hP : va_P G.1 vwCl (List.flatten [wX G xx s372]) H := by rw [e373]; exact hP
                  have hD : va_D A (List.flatten [wX G xx s372]) := by rw [e373]; exact hD
                  refine lv_aload_n hx hb dX11_readPart_283 rfl (lv_at hl 1 rfl) ?_
                  refine va_get (D := G.1) (cl := vwCl) (tys := tysG G) (ci := 11) (v := .ref (xx 3)) (C := RX11) (T := TX11) (N := 37) hx hb hts iX11 hown hG.1 hP 0 rfl rfl 2 (Nat.le_of_ble_eq_true rfl) (hts _ tw_4_99) (fun _ h9 => h9) rfl dX11_readPart_284 ?_
                  refine lv_iload_n hx hb dX11_readPart_287 rfl (lv_at hl 0 rfl) ?_
                  refine lv_iconst (v := 2) hx hb dX11_readPart_288 li_2 ?_
                  refine lv_iadd hx hb dX11_readPart_289 ?_
                  refine lv_aload_n hx hb dX11_readPart_290 rfl (lv_at hl 1 rfl) ?_
                  refine lv_ldc (v := 65535) hx hb hown (hts _ tw_5_25) dX11_readPart_291 ?_
                  obtain ⟨r374, hc375, h⟩ := bd_ex h
                  refine sl_V (q0 := 0) (ci := 11) (C := RX11) K (mX11_sign l G F xx s372 (65535 : Int32) hc375) tw_5_13 tw_1_12 tw_5_12 tw_0_6 tw_5_10 cdX11_sign ⟨Nat.le_of_ble_eq_true rfl, Nat.le_of_ble_eq_true rfl⟩ hP hD hS [0] rfl rfl rfl rfl rfl rfl rfl hl.1 (Nat.le_of_ble_eq_true rfl) ⟨Nat.zero_le _, Nat.zero_le _⟩ dX11_readPart_293 (fun H locs hP hD hS => ?_)
                  have hP : va_P G.1 vwCl (List.flatten [wX G xx r374.2]) H := hP
                  have hD : va_D A (List.flatten [wX G xx r374.2]) := hD
                  obtain ⟨ck376, h⟩ := ck h
                  obtain ⟨s377, e378, h⟩ := nm_ex h
                  refine va_iast hx hb hG.1 hP hD hS 3 0 rfl rfl ck376 dX11_readPart_296 (fun H locs hP hD hS => ?_)
                  have hP : va_P G.1 vwCl (List.flatten [wX G xx s377]) H := by rw [e378]; exact hP
                  have hD : va_D A (List.flatten [wX G xx s377]) := by rw [e378]; exact hD
                  refine lv_aload_n hx hb dX11_readPart_297 rfl (lv_at hl 1 rfl) ?_
                  refine va_get (D := G.1) (cl := vwCl) (tys := tysG G) (ci := 11) (v := .ref (xx 3)) (C := RX11) (T := TX11) (N := 37) hx hb hts iX11 hown hG.1 hP 0 rfl rfl 2 (Nat.le_of_ble_eq_true rfl) (hts _ tw_4_99) (fun _ h9 => h9) rfl dX11_readPart_298 ?_
                  refine lv_iload_n hx hb dX11_readPart_301 rfl (lv_at hl 0 rfl) ?_
                  refine lv_iconst (v := 3) hx hb dX11_readPart_302 li_3 ?_
                  refine lv_iadd hx hb dX11_readPart_303 ?_
                  refine lv_aload_n hx hb dX11_readPart_304 rfl (lv_at hl 1 rfl) ?_
                  refine lv_aload_n hx hb dX11_readPart_305 rfl (lv_at hl 1 rfl) ?_
                  refine va_get (D := G.1) (cl := vwCl) (tys := tysG G) (ci := 11) (v := .ref (xx 3)) (C := RX11) (T := TX11) (N := 37) hx hb hts iX11 hown hG.1 hP 0 rfl rfl 2 (Nat.le_of_ble_eq_true rfl) (hts _ tw_4_99) (fun _ h9 => h9) rfl dX11_readPart_306 ?_
                  refine lv_iload_n hx hb dX11_readPart_309 rfl (lv_at hl 0 rfl) ?_
                  refine lv_iconst (v := 2) hx hb dX11_readPart_310 li_2 ?_
                  refine lv_iadd hx hb dX11_readPart_311 ?_
                  refine va_iald hx hb hG.1 hP 3 0 rfl rfl ck376 dX11_readPart_312 ?_
                  refine lv_bipush (v := 15) hx hb dX11_readPart_313 lb_15 ?_
                  obtain ⟨r379, hc380, h⟩ := bd_ex h
                  refine sl_S K (mX11_bits l G F (s377.2.1 2 (((4 : Int32) * (s358.1 6)) + (2 : Int32)).toNatClampNeg) (15 : Int32) hc380) tw_5_20 tw_1_12 tw_5_19 tw_5_18 cdX11_bits ⟨Nat.le_of_ble_eq_true rfl, Nat.le_of_ble_eq_true rfl⟩ hP hD hS [] rfl rfl rfl rfl hl.1 (Nat.le_of_ble_eq_true rfl) ⟨Nat.zero_le _, Nat.zero_le _⟩ dX11_readPart_315 (fun H locs hP hD hS => ?_)
                  have hP : va_P G.1 vwCl (List.flatten [wX G xx s377]) H := hP
                  have hD : va_D A (List.flatten [wX G xx s377]) := hD
                  obtain ⟨r381, hc382, h⟩ := bd_ex h
                  refine sl_V (q0 := 0) (ci := 11) (C := RX11) K (mX11_sign l G F xx s377 r379 hc382) tw_5_13 tw_1_12 tw_5_12 tw_0_6 tw_5_10 cdX11_sign ⟨Nat.le_of_ble_eq_true rfl, Nat.le_of_ble_eq_true rfl⟩ hP hD hS [0] rfl rfl rfl rfl rfl rfl rfl hl.1 (Nat.le_of_ble_eq_true rfl) ⟨Nat.zero_le _, Nat.zero_le _⟩ dX11_readPart_318 (fun H locs hP hD hS => ?_)
                  have hP : va_P G.1 vwCl (List.flatten [wX G xx r381.2]) H := hP
                  have hD : va_D A (List.flatten [wX G xx r381.2]) := hD
                  obtain ⟨ck383, h⟩ := ck h
                  obtain ⟨s384, e385, h⟩ := nm_ex h
                  refine va_iast hx hb hG.1 hP hD hS 3 0 rfl rfl ck383 dX11_readPart_321 (fun H locs hP hD hS => ?_)
                  have hP : va_P G.1 vwCl (List.flatten [wX G xx s384]) H := by rw [e385]; exact hP
                  have hD : va_D A (List.flatten [wX G xx s384]) := by rw [e385]; exact hD
                  refine lv_aload_n hx hb dX11_readPart_322 rfl (lv_at hl 1 rfl) ?_
                  refine lv_dup hx hb dX11_readPart_323 rfl ?_
                  refine va_get (D := G.1) (cl := vwCl) (tys := tysG G) (ci := 11) (v := .int (s384.1 6)) (C := RX11) (T := TX11) (N := 37) hx hb hts iX11 hown hG.1 hP 0 rfl rfl 6 (Nat.le_of_ble_eq_true rfl) (hts _ tw_4_103) (fun _ h9 => h9) rfl dX11_readPart_324 ?_
                  refine lv_iconst (v := 1) hx hb dX11_readPart_327 li_1 ?_
                  refine lv_iadd hx hb dX11_readPart_328 ?_
                  obtain ⟨s386, e387, h⟩ := nm_ex h
                  refine va_put (D := G.1) (cl := vwCl) (tys := tysG G) (ci := 11) (v := .int ((s384.1 6) + (1 : Int32))) (ty := .int) (C := RX11) (T := TX11) (N := 37) hx hb hts iX11 tyX11 tyX11_ok nmX11 hown hG.1 hP hD hS 0 rfl rfl 6 (Nat.le_of_ble_eq_true rfl) (hts _ tw_4_103) (fun _ h9 => h9) rfl (by decide +kernel) rfl rfl (Nat.le_of_ble_eq_true rfl) dX11_readPart_329 (fun H locs hP hD hS => ?_)
                  have hP : va_P G.1 vwCl (List.flatten [wX G xx s386]) H := by rw [e387]; exact hP
                  have hD : va_D A (List.flatten [wX G xx s386]) := by rw [e387]; exact hD
                  refine lv_goto (tgt := 339) hx hb dX11_readPart_332 (by decide) ?_
                  cases h
                  exact rt_v K hP hD hS dX11_readPart_339
            · have h := if_f c351 h
              refine lv_aload_n hx hb dX11_readPart_159 rfl (lv_at hl 0 rfl) ?_
              refine lv_dup hx hb dX11_readPart_160 rfl ?_
              refine va_get (D := G.1) (cl := vwCl) (tys := tysG G) (ci := 11) (v := .int (σxx.1 17)) (C := RX11) (T := TX11) (N := 37) hx hb hts iX11 hown hG.1 hP 0 rfl rfl 17 (Nat.le_of_ble_eq_true rfl) (hts _ tw_4_114) (fun _ h9 => h9) rfl dX11_readPart_161 ?_
              refine lv_iconst (v := 1) hx hb dX11_readPart_164 li_1 ?_
              refine lv_iadd hx hb dX11_readPart_165 ?_
              obtain ⟨s388, e389, h⟩ := nm_ex h
              refine va_put (D := G.1) (cl := vwCl) (tys := tysG G) (ci := 11) (v := .int ((σxx.1 17) + (1 : Int32))) (ty := .int) (C := RX11) (T := TX11) (N := 37) hx hb hts iX11 tyX11 tyX11_ok nmX11 hown hG.1 hP hD hS 0 rfl rfl 17 (Nat.le_of_ble_eq_true rfl) (hts _ tw_4_114) (fun _ h9 => h9) rfl (by decide +kernel) rfl rfl (Nat.le_of_ble_eq_true rfl) dX11_readPart_166 (fun H locs hP hD hS => ?_)
              have hP : va_P G.1 vwCl (List.flatten [wX G xx s388]) H := by rw [e389]; exact hP
              have hD : va_D A (List.flatten [wX G xx s388]) := by rw [e389]; exact hD
              refine lv_aload_n hx hb dX11_readPart_169 rfl (lv_at hl 0 rfl) ?_
              refine lv_aload_n hx hb dX11_readPart_170 rfl (lv_at hl 0 rfl) ?_
              obtain ⟨r390, hc391, h⟩ := bd_ex h
              refine sl_V (q0 := 0) (ci := 11) (C := RX11) K (mX11_untold l G F xx s388 hc391) tw_5_24 tw_1_12 tw_5_23 tw_0_7 tw_5_21 cdX11_untold ⟨Nat.le_of_ble_eq_true rfl, Nat.le_of_ble_eq_true rfl⟩ hP hD hS [0] rfl rfl rfl rfl rfl rfl rfl hl.1 (Nat.le_of_ble_eq_true rfl) ⟨Nat.zero_le _, Nat.zero_le _⟩ dX11_readPart_171 (fun H locs hP hD hS => ?_)
              have hP : va_P G.1 vwCl (List.flatten [wX G xx s388]) H := hP
              have hD : va_D A (List.flatten [wX G xx s388]) := hD
              obtain ⟨r392, hc393, h⟩ := bd_ex h
              refine sl_V (q0 := 0) (ci := 11) (C := RX11) K (mX11_sign l G F xx s388 r390 hc393) tw_5_13 tw_1_12 tw_5_12 tw_0_6 tw_5_10 cdX11_sign ⟨Nat.le_of_ble_eq_true rfl, Nat.le_of_ble_eq_true rfl⟩ hP hD hS [0] rfl rfl rfl rfl rfl rfl rfl hl.1 (Nat.le_of_ble_eq_true rfl) ⟨Nat.zero_le _, Nat.zero_le _⟩ dX11_readPart_174 (fun H locs hP hD hS => ?_)
              have hP : va_P G.1 vwCl (List.flatten [wX G xx r392.2]) H := hP
              have hD : va_D A (List.flatten [wX G xx r392.2]) := hD
              refine lv_istore_n (lv' := [(2, .int r392.1), (0, .ref (xx 0)), (1, .int x1)]) hx hb dX11_readPart_177 rfl hl (Nat.le_of_ble_eq_true rfl) rfl (fun ls hl => ?_)
              refine lv_aload_n hx hb dX11_readPart_178 rfl (lv_at hl 1 rfl) ?_
              refine lv_ldc (v := 65535) hx hb hown (hts _ tw_5_25) dX11_readPart_179 ?_
              obtain ⟨r394, hc395, h⟩ := bd_ex h
              refine sl_V (q0 := 0) (ci := 11) (C := RX11) K (mX11_sign l G F xx r392.2 (65535 : Int32) hc395) tw_5_13 tw_1_12 tw_5_12 tw_0_6 tw_5_10 cdX11_sign ⟨Nat.le_of_ble_eq_true rfl, Nat.le_of_ble_eq_true rfl⟩ hP hD hS [0] rfl rfl rfl rfl rfl rfl rfl hl.1 (Nat.le_of_ble_eq_true rfl) ⟨Nat.zero_le _, Nat.zero_le _⟩ dX11_readPart_181 (fun H locs hP hD hS => ?_)
              have hP : va_P G.1 vwCl (List.flatten [wX G xx r394.2]) H := hP
              have hD : va_D A (List.flatten [wX G xx r394.2]) := hD
              refine lv_istore_n (lv' := [(3, .int r394.1), (2, .int r392.1), (0, .ref (xx 0)), (1, .int x1)]) hx hb dX11_readPart_184 rfl hl (Nat.le_of_ble_eq_true rfl) rfl (fun ls hl => ?_)
              refine lv_aload_n hx hb dX11_readPart_185 rfl (lv_at hl 2 rfl) ?_
              refine va_get (D := G.1) (cl := vwCl) (tys := tysG G) (ci := 11) (v := .ref (xx 4)) (C := RX11) (T := TX11) (N := 37) hx hb hts iX11 hown hG.1 hP 0 rfl rfl 3 (Nat.le_of_ble_eq_true rfl) (hts _ tw_4_100) (fun _ h9 => h9) rfl dX11_readPart_186 ?_
              refine lv_iload_n hx hb dX11_readPart_189 rfl (lv_at hl 1 rfl) ?_
              refine lv_aload_n hx hb dX11_readPart_190 rfl (lv_at hl 2 rfl) ?_
              refine va_get (D := G.1) (cl := vwCl) (tys := tysG G) (ci := 11) (v := .int (r394.2.1 18)) (C := RX11) (T := TX11) (N := 37) hx hb hts iX11 hown hG.1 hP 0 rfl rfl 18 (Nat.le_of_ble_eq_true rfl) (hts _ tw_4_115) (fun _ h9 => h9) rfl dX11_readPart_191 ?_
              refine lv_bipush (v := -9) hx hb dX11_readPart_194 lb_m9 ?_
              refine lv_icmp_ne (tgt := 203) hx hb dX11_readPart_196 (by decide) (fun c396 => ?_) (fun c396 => ?_)
              · have h := if_f c396 h
                refine lv_aload_n hx hb dX11_readPart_203 rfl (lv_at hl 2 rfl) ?_
                refine va_get (D := G.1) (cl := vwCl) (tys := tysG G) (ci := 11) (v := .ref (xx 4)) (C := RX11) (T := TX11) (N := 37) hx hb hts iX11 hown hG.1 hP 0 rfl rfl 3 (Nat.le_of_ble_eq_true rfl) (hts _ tw_4_100) (fun _ h9 => h9) rfl dX11_readPart_204 ?_
                refine lv_iload_n hx hb dX11_readPart_207 rfl (lv_at hl 1 rfl) ?_
                obtain ⟨ck397, h⟩ := ck h
                refine va_iald hx hb hG.1 hP 4 0 rfl rfl ck397 dX11_readPart_208 ?_
                obtain ⟨s398, e399, h⟩ := nm_ex h
                refine va_iast hx hb hG.1 hP hD hS 4 0 rfl rfl ck397 dX11_readPart_209 (fun H locs hP hD hS => ?_)
                have hP : va_P G.1 vwCl (List.flatten [wX G xx s398]) H := by rw [e399]; exact hP
                have hD : va_D A (List.flatten [wX G xx s398]) := by rw [e399]; exact hD
                refine lv_goto (tgt := 339) hx hb dX11_readPart_210 (by decide) ?_
                cases h
                exact rt_v K hP hD hS dX11_readPart_339
              · have h := if_t c396 h
                refine lv_iload_n hx hb dX11_readPart_199 rfl (lv_at hl 0 rfl) ?_
                refine lv_goto (tgt := 209) hx hb dX11_readPart_200 (by decide) ?_
                obtain ⟨ck400, h⟩ := ck h
                obtain ⟨s401, e402, h⟩ := nm_ex h
                refine va_iast hx hb hG.1 hP hD hS 4 0 rfl rfl ck400 dX11_readPart_209 (fun H locs hP hD hS => ?_)
                have hP : va_P G.1 vwCl (List.flatten [wX G xx s401]) H := by rw [e402]; exact hP
                have hD : va_D A (List.flatten [wX G xx s401]) := by rw [e402]; exact hD
                refine lv_goto (tgt := 339) hx hb dX11_readPart_210 (by decide) ?_
                cases h
                exact rt_v K hP hD hS dX11_readPart_339
        · have h := if_f c311 h
          refine lv_aload_n hx hb dX11_readPart_36 rfl (lv_at hl 0 rfl) ?_
          refine lv_dup hx hb dX11_readPart_37 rfl ?_
          refine va_get (D := G.1) (cl := vwCl) (tys := tysG G) (ci := 11) (v := .int (σxx.1 17)) (C := RX11) (T := TX11) (N := 37) hx hb hts iX11 hown hG.1 hP 0 rfl rfl 17 (Nat.le_of_ble_eq_true rfl) (hts _ tw_4_114) (fun _ h9 => h9) rfl dX11_readPart_38 ?_
          refine lv_iconst (v := 1) hx hb dX11_readPart_41 li_1 ?_
          refine lv_iadd hx hb dX11_readPart_42 ?_
          obtain ⟨s403, e404, h⟩ := nm_ex h
          refine va_put (D := G.1) (cl := vwCl) (tys := tysG G) (ci := 11) (v := .int ((σxx.1 17) + (1 : Int32))) (ty := .int) (C := RX11) (T := TX11) (N := 37) hx hb hts iX11 tyX11 tyX11_ok nmX11 hown hG.1 hP hD hS 0 rfl rfl 17 (Nat.le_of_ble_eq_true rfl) (hts _ tw_4_114) (fun _ h9 => h9) rfl (by decide +kernel) rfl rfl (Nat.le_of_ble_eq_true rfl) dX11_readPart_43 (fun H locs hP hD hS => ?_)
          have hP : va_P G.1 vwCl (List.flatten [wX G xx s403]) H := by rw [e404]; exact hP
          have hD : va_D A (List.flatten [wX G xx s403]) := by rw [e404]; exact hD
          refine lv_iconst (v := 4) hx hb dX11_readPart_46 li_4 ?_
          refine lv_aload_n hx hb dX11_readPart_47 rfl (lv_at hl 0 rfl) ?_
          refine va_get (D := G.1) (cl := vwCl) (tys := tysG G) (ci := 11) (v := .int (s403.1 5)) (C := RX11) (T := TX11) (N := 37) hx hb hts iX11 hown hG.1 hP 0 rfl rfl 5 (Nat.le_of_ble_eq_true rfl) (hts _ tw_4_102) (fun _ h9 => h9) rfl dX11_readPart_48 ?_
          refine lv_imul hx hb dX11_readPart_51 ?_
          refine lv_istore_n (lv' := [(2, .int ((4 : Int32) * (s403.1 5))), (0, .ref (xx 0)), (1, .int x1)]) hx hb dX11_readPart_52 rfl hl (Nat.le_of_ble_eq_true rfl) rfl (fun ls hl => ?_)
          refine lv_aload_n hx hb dX11_readPart_53 rfl (lv_at hl 1 rfl) ?_
          refine va_get (D := G.1) (cl := vwCl) (tys := tysG G) (ci := 11) (v := .ref (xx 2)) (C := RX11) (T := TX11) (N := 37) hx hb hts iX11 hown hG.1 hP 0 rfl rfl 1 (Nat.le_of_ble_eq_true rfl) (hts _ tw_4_98) (fun _ h9 => h9) rfl dX11_readPart_54 ?_
          refine lv_iload_n hx hb dX11_readPart_57 rfl (lv_at hl 0 rfl) ?_
          refine lv_aload_n hx hb dX11_readPart_58 rfl (lv_at hl 1 rfl) ?_
          refine lv_iconst (v := 0) hx hb dX11_readPart_59 li_0 ?_
          refine lv_bipush (v := 9) hx hb dX11_readPart_60 lb_9 ?_
          obtain ⟨r405, hc406, h⟩ := bd_ex h
          refine sl_S K (mX11_bits l G F (0 : Int32) (9 : Int32) hc406) tw_5_20 tw_1_12 tw_5_19 tw_5_18 cdX11_bits ⟨Nat.le_of_ble_eq_true rfl, Nat.le_of_ble_eq_true rfl⟩ hP hD hS [] rfl rfl rfl rfl hl.1 (Nat.le_of_ble_eq_true rfl) ⟨Nat.zero_le _, Nat.zero_le _⟩ dX11_readPart_62 (fun H locs hP hD hS => ?_)
          have hP : va_P G.1 vwCl (List.flatten [wX G xx s403]) H := hP
          have hD : va_D A (List.flatten [wX G xx s403]) := hD
          obtain ⟨r407, hc408, h⟩ := bd_ex h
          refine sl_V (q0 := 0) (ci := 11) (C := RX11) K (mX11_sign l G F xx s403 r405 hc408) tw_5_13 tw_1_12 tw_5_12 tw_0_6 tw_5_10 cdX11_sign ⟨Nat.le_of_ble_eq_true rfl, Nat.le_of_ble_eq_true rfl⟩ hP hD hS [0] rfl rfl rfl rfl rfl rfl rfl hl.1 (Nat.le_of_ble_eq_true rfl) ⟨Nat.zero_le _, Nat.zero_le _⟩ dX11_readPart_65 (fun H locs hP hD hS => ?_)
          have hP : va_P G.1 vwCl (List.flatten [wX G xx r407.2]) H := hP
          have hD : va_D A (List.flatten [wX G xx r407.2]) := hD
          obtain ⟨ck409, h⟩ := ck h
          obtain ⟨s410, e411, h⟩ := nm_ex h
          refine va_iast hx hb hG.1 hP hD hS 2 0 rfl rfl ck409 dX11_readPart_68 (fun H locs hP hD hS => ?_)
          have hP : va_P G.1 vwCl (List.flatten [wX G xx s410]) H := by rw [e411]; exact hP
          have hD : va_D A (List.flatten [wX G xx s410]) := by rw [e411]; exact hD
          refine lv_aload_n hx hb dX11_readPart_69 rfl (lv_at hl 1 rfl) ?_
          refine va_get (D := G.1) (cl := vwCl) (tys := tysG G) (ci := 11) (v := .ref (xx 2)) (C := RX11) (T := TX11) (N := 37) hx hb hts iX11 hown hG.1 hP 0 rfl rfl 1 (Nat.le_of_ble_eq_true rfl) (hts _ tw_4_98) (fun _ h9 => h9) rfl dX11_readPart_70 ?_
          refine lv_iload_n hx hb dX11_readPart_73 rfl (lv_at hl 0 rfl) ?_
          refine lv_iconst (v := 1) hx hb dX11_readPart_74 li_1 ?_
          refine lv_iadd hx hb dX11_readPart_75 ?_
          refine lv_aload_n hx hb dX11_readPart_76 rfl (lv_at hl 1 rfl) ?_
          refine lv_aload_n hx hb dX11_readPart_77 rfl (lv_at hl 1 rfl) ?_
          refine va_get (D := G.1) (cl := vwCl) (tys := tysG G) (ci := 11) (v := .ref (xx 2)) (C := RX11) (T := TX11) (N := 37) hx hb hts iX11 hown hG.1 hP 0 rfl rfl 1 (Nat.le_of_ble_eq_true rfl) (hts _ tw_4_98) (fun _ h9 => h9) rfl dX11_readPart_78 ?_
          refine lv_iload_n hx hb dX11_readPart_81 rfl (lv_at hl 0 rfl) ?_
          refine va_iald hx hb hG.1 hP 2 0 rfl rfl ck409 dX11_readPart_82 ?_
          refine lv_bipush (v := 9) hx hb dX11_readPart_83 lb_9 ?_
          obtain ⟨r412, hc413, h⟩ := bd_ex h
          refine sl_S K (mX11_bits l G F (s410.2.1 1 ((4 : Int32) * (s403.1 5)).toNatClampNeg) (9 : Int32) hc413) tw_5_20 tw_1_12 tw_5_19 tw_5_18 cdX11_bits ⟨Nat.le_of_ble_eq_true rfl, Nat.le_of_ble_eq_true rfl⟩ hP hD hS [] rfl rfl rfl rfl hl.1 (Nat.le_of_ble_eq_true rfl) ⟨Nat.zero_le _, Nat.zero_le _⟩ dX11_readPart_85 (fun H locs hP hD hS => ?_)
          have hP : va_P G.1 vwCl (List.flatten [wX G xx s410]) H := hP
          have hD : va_D A (List.flatten [wX G xx s410]) := hD
          obtain ⟨r414, hc415, h⟩ := bd_ex h
          refine sl_V (q0 := 0) (ci := 11) (C := RX11) K (mX11_sign l G F xx s410 r412 hc415) tw_5_13 tw_1_12 tw_5_12 tw_0_6 tw_5_10 cdX11_sign ⟨Nat.le_of_ble_eq_true rfl, Nat.le_of_ble_eq_true rfl⟩ hP hD hS [0] rfl rfl rfl rfl rfl rfl rfl hl.1 (Nat.le_of_ble_eq_true rfl) ⟨Nat.zero_le _, Nat.zero_le _⟩ dX11_readPart_88 (fun H locs hP hD hS => ?_)
          have hP : va_P G.1 vwCl (List.flatten [wX G xx r414.2]) H := hP
          have hD : va_D A (List.flatten [wX G xx r414.2]) := hD
          obtain ⟨ck416, h⟩ := ck h
          obtain ⟨s417, e418, h⟩ := nm_ex h
          refine va_iast hx hb hG.1 hP hD hS 2 0 rfl rfl ck416 dX11_readPart_91 (fun H locs hP hD hS => ?_)
          have hP : va_P G.1 vwCl (List.flatten [wX G xx s417]) H := by rw [e418]; exact hP
          have hD : va_D A (List.flatten [wX G xx s417]) := by rw [e418]; exact hD
          refine lv_aload_n hx hb dX11_readPart_92 rfl (lv_at hl 1 rfl) ?_
          refine va_get (D := G.1) (cl := vwCl) (tys := tysG G) (ci := 11) (v := .ref (xx 2)) (C := RX11) (T := TX11) (N := 37) hx hb hts iX11 hown hG.1 hP 0 rfl rfl 1 (Nat.le_of_ble_eq_true rfl) (hts _ tw_4_98) (fun _ h9 => h9) rfl dX11_readPart_93 ?_
          refine lv_iload_n hx hb dX11_readPart_96 rfl (lv_at hl 0 rfl) ?_
          refine lv_iconst (v := 2) hx hb dX11_readPart_97 li_2 ?_
          refine lv_iadd hx hb dX11_readPart_98 ?_
          refine lv_aload_n hx hb dX11_readPart_99 rfl (lv_at hl 1 rfl) ?_
          refine lv_iconst (v := 0) hx hb dX11_readPart_100 li_0 ?_
          refine lv_iconst (v := 5) hx hb dX11_readPart_101 li_5 ?_
          obtain ⟨r419, hc420, h⟩ := bd_ex h
          refine sl_S K (mX11_bits l G F (0 : Int32) (5 : Int32) hc420) tw_5_20 tw_1_12 tw_5_19 tw_5_18 cdX11_bits ⟨Nat.le_of_ble_eq_true rfl, Nat.le_of_ble_eq_true rfl⟩ hP hD hS [] rfl rfl rfl rfl hl.1 (Nat.le_of_ble_eq_true rfl) ⟨Nat.zero_le _, Nat.zero_le _⟩ dX11_readPart_102 (fun H locs hP hD hS => ?_)
          have hP : va_P G.1 vwCl (List.flatten [wX G xx s417]) H := hP
          have hD : va_D A (List.flatten [wX G xx s417]) := hD
          obtain ⟨r421, hc422, h⟩ := bd_ex h
          refine sl_V (q0 := 0) (ci := 11) (C := RX11) K (mX11_sign l G F xx s417 r419 hc422) tw_5_13 tw_1_12 tw_5_12 tw_0_6 tw_5_10 cdX11_sign ⟨Nat.le_of_ble_eq_true rfl, Nat.le_of_ble_eq_true rfl⟩ hP hD hS [0] rfl rfl rfl rfl rfl rfl rfl hl.1 (Nat.le_of_ble_eq_true rfl) ⟨Nat.zero_le _, Nat.zero_le _⟩ dX11_readPart_105 (fun H locs hP hD hS => ?_)
          have hP : va_P G.1 vwCl (List.flatten [wX G xx r421.2]) H := hP
          have hD : va_D A (List.flatten [wX G xx r421.2]) := hD
          obtain ⟨ck423, h⟩ := ck h
          obtain ⟨s424, e425, h⟩ := nm_ex h
          refine va_iast hx hb hG.1 hP hD hS 2 0 rfl rfl ck423 dX11_readPart_108 (fun H locs hP hD hS => ?_)
          have hP : va_P G.1 vwCl (List.flatten [wX G xx s424]) H := by rw [e425]; exact hP
          have hD : va_D A (List.flatten [wX G xx s424]) := by rw [e425]; exact hD
          refine lv_aload_n hx hb dX11_readPart_109 rfl (lv_at hl 1 rfl) ?_
          refine va_get (D := G.1) (cl := vwCl) (tys := tysG G) (ci := 11) (v := .ref (xx 2)) (C := RX11) (T := TX11) (N := 37) hx hb hts iX11 hown hG.1 hP 0 rfl rfl 1 (Nat.le_of_ble_eq_true rfl) (hts _ tw_4_98) (fun _ h9 => h9) rfl dX11_readPart_110 ?_
          refine lv_iload_n hx hb dX11_readPart_113 rfl (lv_at hl 0 rfl) ?_
          refine lv_iconst (v := 3) hx hb dX11_readPart_114 li_3 ?_
          refine lv_iadd hx hb dX11_readPart_115 ?_
          refine lv_aload_n hx hb dX11_readPart_116 rfl (lv_at hl 1 rfl) ?_
          refine lv_aload_n hx hb dX11_readPart_117 rfl (lv_at hl 1 rfl) ?_
          refine va_get (D := G.1) (cl := vwCl) (tys := tysG G) (ci := 11) (v := .ref (xx 2)) (C := RX11) (T := TX11) (N := 37) hx hb hts iX11 hown hG.1 hP 0 rfl rfl 1 (Nat.le_of_ble_eq_true rfl) (hts _ tw_4_98) (fun _ h9 => h9) rfl dX11_readPart_118 ?_
          refine lv_iload_n hx hb dX11_readPart_121 rfl (lv_at hl 0 rfl) ?_
          refine lv_iconst (v := 2) hx hb dX11_readPart_122 li_2 ?_
          refine lv_iadd hx hb dX11_readPart_123 ?_
          refine va_iald hx hb hG.1 hP 2 0 rfl rfl ck423 dX11_readPart_124 ?_
          refine lv_iconst (v := 5) hx hb dX11_readPart_125 li_5 ?_
          obtain ⟨r426, hc427, h⟩ := bd_ex h
          refine sl_S K (mX11_bits l G F (s424.2.1 1 (((4 : Int32) * (s403.1 5)) + (2 : Int32)).toNatClampNeg) (5 : Int32) hc427) tw_5_20 tw_1_12 tw_5_19 tw_5_18 cdX11_bits ⟨Nat.le_of_ble_eq_true rfl, Nat.le_of_ble_eq_true rfl⟩ hP hD hS [] rfl rfl rfl rfl hl.1 (Nat.le_of_ble_eq_true rfl) ⟨Nat.zero_le _, Nat.zero_le _⟩ dX11_readPart_126 (fun H locs hP hD hS => ?_)
          have hP : va_P G.1 vwCl (List.flatten [wX G xx s424]) H := hP
          have hD : va_D A (List.flatten [wX G xx s424]) := hD
          obtain ⟨r428, hc429, h⟩ := bd_ex h
          refine sl_V (q0 := 0) (ci := 11) (C := RX11) K (mX11_sign l G F xx s424 r426 hc429) tw_5_13 tw_1_12 tw_5_12 tw_0_6 tw_5_10 cdX11_sign ⟨Nat.le_of_ble_eq_true rfl, Nat.le_of_ble_eq_true rfl⟩ hP hD hS [0] rfl rfl rfl rfl rfl rfl rfl hl.1 (Nat.le_of_ble_eq_true rfl) ⟨Nat.zero_le _, Nat.zero_le _⟩ dX11_readPart_129 (fun H locs hP hD hS => ?_)
          have hP : va_P G.1 vwCl (List.flatten [wX G xx r428.2]) H := hP
          have hD : va_D A (List.flatten [wX G xx r428.2]) := hD
          obtain ⟨ck430, h⟩ := ck h
          obtain ⟨s431, e432, h⟩ := nm_ex h
          refine va_iast hx hb hG.1 hP hD hS 2 0 rfl rfl ck430 dX11_readPart_132 (fun H locs hP hD hS => ?_)
          have hP : va_P G.1 vwCl (List.flatten [wX G xx s431]) H := by rw [e432]; exact hP
          have hD : va_D A (List.flatten [wX G xx s431]) := by rw [e432]; exact hD
          refine lv_aload_n hx hb dX11_readPart_133 rfl (lv_at hl 1 rfl) ?_
          refine lv_dup hx hb dX11_readPart_134 rfl ?_
          refine va_get (D := G.1) (cl := vwCl) (tys := tysG G) (ci := 11) (v := .int (s431.1 5)) (C := RX11) (T := TX11) (N := 37) hx hb hts iX11 hown hG.1 hP 0 rfl rfl 5 (Nat.le_of_ble_eq_true rfl) (hts _ tw_4_102) (fun _ h9 => h9) rfl dX11_readPart_135 ?_
          refine lv_iconst (v := 1) hx hb dX11_readPart_138 li_1 ?_
          refine lv_iadd hx hb dX11_readPart_139 ?_
          obtain ⟨s433, e434, h⟩ := nm_ex h
          refine va_put (D := G.1) (cl := vwCl) (tys := tysG G) (ci := 11) (v := .int ((s431.1 5) + (1 : Int32))) (ty := .int) (C := RX11) (T := TX11) (N := 37) hx hb hts iX11 tyX11 tyX11_ok nmX11 hown hG.1 hP hD hS 0 rfl rfl 5 (Nat.le_of_ble_eq_true rfl) (hts _ tw_4_102) (fun _ h9 => h9) rfl (by decide +kernel) rfl rfl (Nat.le_of_ble_eq_true rfl) dX11_readPart_140 (fun H locs hP hD hS => ?_)
          have hP : va_P G.1 vwCl (List.flatten [wX G xx s433]) H := by rw [e434]; exact hP
          have hD : va_D A (List.flatten [wX G xx s433]) := by rw [e434]; exact hD
          refine lv_goto (tgt := 339) hx hb dX11_readPart_143 (by decide) ?_
          cases h
          exact rt_v K hP hD hS dX11_readPart_339
    · have h := if_f c218 h
      refine lv_aload_n hx hb dX11_readPart_15 rfl (lv_at hl 0 rfl) ?_
      obtain ⟨r435, hc436, h⟩ := bd_ex h
      refine sl_V (q0 := 0) (ci := 11) (C := RX11) K (mX11_readBodyPart l G F xx σxx hc436) tw_4_238 tw_1_12 tw_4_237 tw_0_3 tw_4_235 cdX11_readBodyPart ⟨Nat.le_of_ble_eq_true rfl, Nat.le_of_ble_eq_true rfl⟩ hP hD hS [0] rfl rfl rfl rfl rfl rfl rfl hl.1 (Nat.le_of_ble_eq_true rfl) ⟨Nat.zero_le _, Nat.zero_le _⟩ dX11_readPart_16 (fun H locs hP hD hS => ?_)
      have hP : va_P G.1 vwCl (List.flatten [wX G xx r435]) H := hP
      have hD : va_D A (List.flatten [wX G xx r435]) := hD
      refine lv_goto (tgt := 339) hx hb dX11_readPart_19 (by decide) ?_
      cases h
      exact rt_v K hP hD hS dX11_readPart_339
def gbX11_readText_28 (F : Nat)  (rc : Int32 → ST → Option (Int32 × ST)) (v1 : Int32) (σxx : ST) : Option (Int32 × ST) :=
  if (6 : Int32) ≤ v1 then
    some (v1, σxx)
  else
    if v1 < 0 ∨ 6 ≤ v1.toNatClampNeg then none else
    nm (sA σxx 3 v1.toNatClampNeg (-9 : Int32)) fun (s13 : ST) =>
    rc (v1 + 1) s13
def gX11_readText_28 (F : Nat)  : Nat → Int32 → ST → Option (Int32 × ST)
  | 0, _, _ => none
  | n + 1, v1, σxx => gbX11_readText_28 F  (gX11_readText_28 F  n) v1 σxx
set_option maxHeartbeats 4000000 in
set_option maxRecDepth 100000 in
theorem kX11_readText_28 {p : Program} {l : Launch} {e : Env} {s : State} {m : MethodId} {args : Array Value} {below : List Frame} {meth : Method} {c : Code} {A : Nat → Prop} {Q : State → Prop} {G : GP} (K : Cx p s m meth c G cX11_readText RX11 2 (some .int) args A) (F : Nat) (xx : Nat → Nat)  {z : Int32 × ST} (kk : ∀ (H : Heap) (locs : List Loc) (ls : Array Slot), va_P G.1 vwCl (List.flatten [wX G xx z.2]) H → va_D A (List.flatten [wX G xx z.2]) → va_S A s.heap H locs → lv_has ls 2 [(0, .ref (xx 0)), (1, .int z.1)] → W p l e (RM 5) s m args below meth c H locs 0 0 Q (F0 m 48 ls [])) :
    ∀ (n : Nat) (v1 : Int32) (σxx : ST) (H : Heap) (locs : List Loc) (ls : Array Slot), va_P G.1 vwCl (List.flatten [wX G xx σxx]) H → va_D A (List.flatten [wX G xx σxx]) → va_S A s.heap H locs → lv_has ls 2 [(0, .ref (xx 0)), (1, .int v1)] → gX11_readText_28 F  n v1 σxx = some z → W p l e (RM 5) s m args below meth c H locs 0 0 Q (F0 m 28 ls []) := by
  obtain ⟨hx, hb, hr, hml, hts, hown, hlocks, hA, hG⟩ := id K
  intro n
  induction n with
  | zero =>
    intro v1 σxx H locs ls hP hD hS hl h
    have h : none = some z := h
    cases h
  | succ n ih =>
    intro v1 σxx H locs ls hP hD hS hl h
    have h : gbX11_readText_28 F  (gX11_readText_28 F  n) v1 σxx = some z := h
    unfold gbX11_readText_28 at h
    refine lv_iload_n hx hb dX11_readText_28 rfl (lv_at hl 1 rfl) ?_
    refine lv_bipush (v := 6) hx hb dX11_readText_29 lb_6 ?_
    refine lv_icmp_ge (tgt := 48) hx hb dX11_readText_31 (by decide) (fun c11 => ?_) (fun c11 => ?_)
    · have h := if_t c11 h
      cases h
      exact kk _ _ _ hP hD hS (lv_sub hl [0, 1] rfl)
    · have h := if_f c11 h
      refine lv_aload_n hx hb dX11_readText_34 rfl (lv_at hl 0 rfl) ?_
      refine va_get (D := G.1) (cl := vwCl) (tys := tysG G) (ci := 11) (v := .ref (xx 4)) (C := RX11) (T := TX11) (N := 37) hx hb hts iX11 hown hG.1 hP 0 rfl rfl 3 (Nat.le_of_ble_eq_true rfl) (hts _ tw_4_100) (fun _ h9 => h9) rfl dX11_readText_35 ?_
      refine lv_iload_n hx hb dX11_readText_38 rfl (lv_at hl 1 rfl) ?_
      refine lv_bipush (v := -9) hx hb dX11_readText_39 lb_m9 ?_
      obtain ⟨ck12, h⟩ := ck h
      obtain ⟨s13, e14, h⟩ := nm_ex h
      refine va_iast hx hb hG.1 hP hD hS 4 0 rfl rfl ck12 dX11_readText_41 (fun H locs hP hD hS => ?_)
      have hP : va_P G.1 vwCl (List.flatten [wX G xx s13]) H := by rw [e14]; exact hP
      have hD : va_D A (List.flatten [wX G xx s13]) := by rw [e14]; exact hD
      refine lv_iinc (v := v1 + 1) (lv' := [(1, .int (v1 + 1)), (0, .ref (xx 0))]) hx hb dX11_readText_42 hl (k := 1) rfl (by rw [li_1]) (Nat.le_of_ble_eq_true rfl) rfl (fun ls hl => ?_)
      refine lv_goto (tgt := 28) hx hb dX11_readText_45 (by decide) ?_
      exact ih (v1 + 1) s13 _ _ _ hP hD hS (lv_sub hl [1, 0] rfl) h
def gbX11_readText_73 (F : Nat) (v1 : Int32) (rc : ST → Option (ST)) (σxx : ST) : Option (ST) :=
  if (σxx.1 18) = (-9 : Int32) then
    if (σxx.1 16) ≤ (σxx.1 17) then
      some σxx
    else
      if (σxx.1 17) < 0 ∨ 92 ≤ (σxx.1 17).toNatClampNeg then none else
      (fX11_readPart F σxx (σxx.2.1 15 (σxx.1 17).toNatClampNeg)).bind fun r24 =>
      rc r24
  else
    some σxx
def gX11_readText_73 (F : Nat) (v1 : Int32) : Nat → ST → Option (ST)
  | 0, _ => none
  | n + 1, σxx => gbX11_readText_73 F v1 (gX11_readText_73 F v1 n) σxx
set_option maxHeartbeats 4000000 in
set_option maxRecDepth 100000 in
theorem kX11_readText_73 {p : Program} {l : Launch} {e : Env} {s : State} {m : MethodId} {args : Array Value} {below : List Frame} {meth : Method} {c : Code} {A : Nat → Prop} {Q : State → Prop} {G : GP} (K : Cx p s m meth c G cX11_readText RX11 2 (some .int) args A) (F : Nat) (xx : Nat → Nat) (v1 : Int32) {z : ST} (kk : ∀ (H : Heap) (locs : List Loc) (ls : Array Slot), va_P G.1 vwCl (List.flatten [wX G xx z]) H → va_D A (List.flatten [wX G xx z]) → va_S A s.heap H locs → lv_has ls 2 [(0, .ref (xx 0)), (1, .int v1)] → W p l e (RM 5) s m args below meth c H locs 0 0 Q (F0 m 109 ls [])) :
    ∀ (n : Nat) (σxx : ST) (H : Heap) (locs : List Loc) (ls : Array Slot), va_P G.1 vwCl (List.flatten [wX G xx σxx]) H → va_D A (List.flatten [wX G xx σxx]) → va_S A s.heap H locs → lv_has ls 2 [(0, .ref (xx 0)), (1, .int v1)] → gX11_readText_73 F v1 n σxx = some z → W p l e (RM 5) s m args below meth c H locs 0 0 Q (F0 m 73 ls []) := by
  obtain ⟨hx, hb, hr, hml, hts, hown, hlocks, hA, hG⟩ := id K
  intro n
  induction n with
  | zero =>
    intro σxx H locs ls hP hD hS hl h
    have h : none = some z := h
    cases h
  | succ n ih =>
    intro σxx H locs ls hP hD hS hl h
    have h : gbX11_readText_73 F v1 (gX11_readText_73 F v1 n) σxx = some z := h
    unfold gbX11_readText_73 at h
    refine lv_aload_n hx hb dX11_readText_73 rfl (lv_at hl 0 rfl) ?_
    refine va_get (D := G.1) (cl := vwCl) (tys := tysG G) (ci := 11) (v := .int (σxx.1 18)) (C := RX11) (T := TX11) (N := 37) hx hb hts iX11 hown hG.1 hP 0 rfl rfl 18 (Nat.le_of_ble_eq_true rfl) (hts _ tw_4_115) (fun _ h9 => h9) rfl dX11_readText_74 ?_
    refine lv_bipush (v := -9) hx hb dX11_readText_77 lb_m9 ?_
    refine lv_icmp_ne (tgt := 109) hx hb dX11_readText_79 (by decide) (fun c21 => ?_) (fun c21 => ?_)
    · have h := if_f c21 h
      cases h
      exact kk _ _ _ hP hD hS (lv_sub hl [0, 1] rfl)
    · have h := if_t c21 h
      refine lv_aload_n hx hb dX11_readText_82 rfl (lv_at hl 0 rfl) ?_
      refine va_get (D := G.1) (cl := vwCl) (tys := tysG G) (ci := 11) (v := .int (σxx.1 17)) (C := RX11) (T := TX11) (N := 37) hx hb hts iX11 hown hG.1 hP 0 rfl rfl 17 (Nat.le_of_ble_eq_true rfl) (hts _ tw_4_114) (fun _ h9 => h9) rfl dX11_readText_83 ?_
      refine lv_aload_n hx hb dX11_readText_86 rfl (lv_at hl 0 rfl) ?_
      refine va_get (D := G.1) (cl := vwCl) (tys := tysG G) (ci := 11) (v := .int (σxx.1 16)) (C := RX11) (T := TX11) (N := 37) hx hb hts iX11 hown hG.1 hP 0 rfl rfl 16 (Nat.le_of_ble_eq_true rfl) (hts _ tw_4_113) (fun _ h9 => h9) rfl dX11_readText_87 ?_
      refine lv_icmp_ge (tgt := 109) hx hb dX11_readText_90 (by decide) (fun c22 => ?_) (fun c22 => ?_)
      · have h := if_t c22 h
        cases h
        exact kk _ _ _ hP hD hS (lv_sub hl [0, 1] rfl)
      · have h := if_f c22 h
        refine lv_aload_n hx hb dX11_readText_93 rfl (lv_at hl 0 rfl) ?_
        refine lv_aload_n hx hb dX11_readText_94 rfl (lv_at hl 0 rfl) ?_
        refine va_get (D := G.1) (cl := vwCl) (tys := tysG G) (ci := 11) (v := .ref (xx 16)) (C := RX11) (T := TX11) (N := 37) hx hb hts iX11 hown hG.1 hP 0 rfl rfl 15 (Nat.le_of_ble_eq_true rfl) (hts _ tw_4_112) (fun _ h9 => h9) rfl dX11_readText_95 ?_
        refine lv_aload_n hx hb dX11_readText_98 rfl (lv_at hl 0 rfl) ?_
        refine va_get (D := G.1) (cl := vwCl) (tys := tysG G) (ci := 11) (v := .int (σxx.1 17)) (C := RX11) (T := TX11) (N := 37) hx hb hts iX11 hown hG.1 hP 0 rfl rfl 17 (Nat.le_of_ble_eq_true rfl) (hts _ tw_4_114) (fun _ h9 => h9) rfl dX11_readText_99 ?_
        obtain ⟨ck23, h⟩ := ck h
        refine va_iald hx hb hG.1 hP 9 0 rfl rfl ck23 dX11_readText_102 ?_
        obtain ⟨r24, hc25, h⟩ := bd_ex h
        refine sl_V (q0 := 0) (ci := 11) (C := RX11) K (mX11_readPart l G F xx σxx (σxx.2.1 15 (σxx.1 17).toNatClampNeg) hc25) tw_4_234 tw_1_12 tw_4_233 tw_0_2 tw_4_231 cdX11_readPart ⟨Nat.le_of_ble_eq_true rfl, Nat.le_of_ble_eq_true rfl⟩ hP hD hS [0] rfl rfl rfl rfl rfl rfl rfl hl.1 (Nat.le_of_ble_eq_true rfl) ⟨Nat.zero_le _, Nat.zero_le _⟩ dX11_readText_103 (fun H locs hP hD hS => ?_)
        have hP : va_P G.1 vwCl (List.flatten [wX G xx r24]) H := hP
        have hD : va_D A (List.flatten [wX G xx r24]) := hD
        refine lv_goto (tgt := 73) hx hb dX11_readText_106 (by decide) ?_
        exact ih r24 _ _ _ hP hD hS (lv_sub hl [0, 1] rfl) h
def fX11_readText (F : Nat) (σxx : ST)  : Option (Int32 × ST) :=
  nm (sI σxx 17 (0 : Int32)) fun (s1 : ST) =>
  nm (sI s1 18 (-9 : Int32)) fun (s3 : ST) =>
  nm (sI s3 4 (0 : Int32)) fun (s5 : ST) =>
  nm (sI s5 5 (0 : Int32)) fun (s7 : ST) =>
  nm (sI s7 6 (0 : Int32)) fun (s9 : ST) =>
  (gX11_readText_28 F  F (0 : Int32) s9).bind fun z15 =>
    if (z15.2.1 16) = 0 then
      some ((0 : Int32), z15.2)
    else
      if (z15.2.2.1 15 (0 : Int32).toNatClampNeg) = (71 : Int32) then
        nm (sI z15.2 17 (1 : Int32)) fun (s19 : ST) =>
        (gX11_readText_73 F z15.1 F s19).bind fun z26 =>
          some (z26.1 18, z26)
      else
        some ((0 : Int32), z15.2)
theorem cdX11_readText : CallD yX11_readText 0 := by decide +kernel
set_option maxHeartbeats 4000000 in
set_option maxRecDepth 100000 in
theorem mX11_readText (l : Launch) (G : GP) (F : Nat) (xx : Nat → Nat) (σxx : ST)  {r : Int32 × ST} (h : fX11_readText F σxx  = some r) : CC l G yX11_readText cX11_readText 2 (some .int) 5 [.ref (xx 0)] (List.flatten [wX G xx σxx]) (List.flatten [wX G xx r.2]) (some (.int r.1)) := by
  refine CC.of (by decide) (Nat.le_of_ble_eq_true rfl) ?_
  intro p e s m below meth c A K hP hD hS ls hl
  obtain ⟨hx, hb, hr, hml, hts, hown, hlocks, hA, hG⟩ := id K
  have hl : lv_has ls 2 [(0, .ref (xx 0))] := hl
  unfold fX11_readText at h
  refine lv_aload_n hx hb dX11_readText_0 rfl (lv_at hl 0 rfl) ?_
  refine lv_iconst (v := 0) hx hb dX11_readText_1 li_0 ?_
  obtain ⟨s1, e2, h⟩ := nm_ex h
  refine va_put (D := G.1) (cl := vwCl) (tys := tysG G) (ci := 11) (v := .int (0 : Int32)) (ty := .int) (C := RX11) (T := TX11) (N := 37) hx hb hts iX11 tyX11 tyX11_ok nmX11 hown hG.1 hP hD hS 0 rfl rfl 17 (Nat.le_of_ble_eq_true rfl) (hts _ tw_4_114) (fun _ h9 => h9) rfl (by decide +kernel) rfl rfl (Nat.le_of_ble_eq_true rfl) dX11_readText_2 (fun H locs hP hD hS => ?_)
  have hP : va_P G.1 vwCl (List.flatten [wX G xx s1]) H := by rw [e2]; exact hP
  have hD : va_D A (List.flatten [wX G xx s1]) := by rw [e2]; exact hD
  refine lv_aload_n hx hb dX11_readText_5 rfl (lv_at hl 0 rfl) ?_
  refine lv_bipush (v := -9) hx hb dX11_readText_6 lb_m9 ?_
  obtain ⟨s3, e4, h⟩ := nm_ex h
  refine va_put (D := G.1) (cl := vwCl) (tys := tysG G) (ci := 11) (v := .int (-9 : Int32)) (ty := .int) (C := RX11) (T := TX11) (N := 37) hx hb hts iX11 tyX11 tyX11_ok nmX11 hown hG.1 hP hD hS 0 rfl rfl 18 (Nat.le_of_ble_eq_true rfl) (hts _ tw_4_115) (fun _ h9 => h9) rfl (by decide +kernel) rfl rfl (Nat.le_of_ble_eq_true rfl) dX11_readText_8 (fun H locs hP hD hS => ?_)
  have hP : va_P G.1 vwCl (List.flatten [wX G xx s3]) H := by rw [e4]; exact hP
  have hD : va_D A (List.flatten [wX G xx s3]) := by rw [e4]; exact hD
  refine lv_aload_n hx hb dX11_readText_11 rfl (lv_at hl 0 rfl) ?_
  refine lv_iconst (v := 0) hx hb dX11_readText_12 li_0 ?_
  obtain ⟨s5, e6, h⟩ := nm_ex h
  refine va_put (D := G.1) (cl := vwCl) (tys := tysG G) (ci := 11) (v := .int (0 : Int32)) (ty := .int) (C := RX11) (T := TX11) (N := 37) hx hb hts iX11 tyX11 tyX11_ok nmX11 hown hG.1 hP hD hS 0 rfl rfl 4 (Nat.le_of_ble_eq_true rfl) (hts _ tw_4_101) (fun _ h9 => h9) rfl (by decide +kernel) rfl rfl (Nat.le_of_ble_eq_true rfl) dX11_readText_13 (fun H locs hP hD hS => ?_)
  have hP : va_P G.1 vwCl (List.flatten [wX G xx s5]) H := by rw [e6]; exact hP
  have hD : va_D A (List.flatten [wX G xx s5]) := by rw [e6]; exact hD
  refine lv_aload_n hx hb dX11_readText_16 rfl (lv_at hl 0 rfl) ?_
  refine lv_iconst (v := 0) hx hb dX11_readText_17 li_0 ?_
  obtain ⟨s7, e8, h⟩ := nm_ex h
  refine va_put (D := G.1) (cl := vwCl) (tys := tysG G) (ci := 11) (v := .int (0 : Int32)) (ty := .int) (C := RX11) (T := TX11) (N := 37) hx hb hts iX11 tyX11 tyX11_ok nmX11 hown hG.1 hP hD hS 0 rfl rfl 5 (Nat.le_of_ble_eq_true rfl) (hts _ tw_4_102) (fun _ h9 => h9) rfl (by decide +kernel) rfl rfl (Nat.le_of_ble_eq_true rfl) dX11_readText_18 (fun H locs hP hD hS => ?_)
  have hP : va_P G.1 vwCl (List.flatten [wX G xx s7]) H := by rw [e8]; exact hP
  have hD : va_D A (List.flatten [wX G xx s7]) := by rw [e8]; exact hD
  refine lv_aload_n hx hb dX11_readText_21 rfl (lv_at hl 0 rfl) ?_
  refine lv_iconst (v := 0) hx hb dX11_readText_22 li_0 ?_
  obtain ⟨s9, e10, h⟩ := nm_ex h
  refine va_put (D := G.1) (cl := vwCl) (tys := tysG G) (ci := 11) (v := .int (0 : Int32)) (ty := .int) (C := RX11) (T := TX11) (N := 37) hx hb hts iX11 tyX11 tyX11_ok nmX11 hown hG.1 hP hD hS 0 rfl rfl 6 (Nat.le_of_ble_eq_true rfl) (hts _ tw_4_103) (fun _ h9 => h9) rfl (by decide +kernel) rfl rfl (Nat.le_of_ble_eq_true rfl) dX11_readText_23 (fun H locs hP hD hS => ?_)
  have hP : va_P G.1 vwCl (List.flatten [wX G xx s9]) H := by rw [e10]; exact hP
  have hD : va_D A (List.flatten [wX G xx s9]) := by rw [e10]; exact hD
  refine lv_iconst (v := 0) hx hb dX11_readText_26 li_0 ?_
  refine lv_istore_n (lv' := [(1, .int (0 : Int32)), (0, .ref (xx 0))]) hx hb dX11_readText_27 rfl hl (Nat.le_of_ble_eq_true rfl) rfl (fun ls hl => ?_)
  obtain ⟨z15, hz16, h⟩ := bd_ex h
  refine kX11_readText_28 K F xx  (fun H locs ls hP hD hS hl => ?_) F (0 : Int32) s9 _ _ _ hP hD hS (lv_sub hl [1, 0] rfl) hz16
  refine lv_aload_n hx hb dX11_readText_48 rfl (lv_at hl 0 rfl) ?_
  refine va_get (D := G.1) (cl := vwCl) (tys := tysG G) (ci := 11) (v := .int (z15.2.1 16)) (C := RX11) (T := TX11) (N := 37) hx hb hts iX11 hown hG.1 hP 0 rfl rfl 16 (Nat.le_of_ble_eq_true rfl) (hts _ tw_4_113) (fun _ h9 => h9) rfl dX11_readText_49 ?_
  refine lv_if_eq (tgt := 66) hx hb dX11_readText_52 (by decide) (fun c17 => ?_) (fun c17 => ?_)
  · have h := if_t c17 h
    refine lv_iconst (v := 0) hx hb dX11_readText_66 li_0 ?_
    cases h
    exact rt_i K hP hD hS dX11_readText_67
  · have h := if_f c17 h
    refine lv_aload_n hx hb dX11_readText_55 rfl (lv_at hl 0 rfl) ?_
    refine va_get (D := G.1) (cl := vwCl) (tys := tysG G) (ci := 11) (v := .ref (xx 16)) (C := RX11) (T := TX11) (N := 37) hx hb hts iX11 hown hG.1 hP 0 rfl rfl 15 (Nat.le_of_ble_eq_true rfl) (hts _ tw_4_112) (fun _ h9 => h9) rfl dX11_readText_56 ?_
    refine lv_iconst (v := 0) hx hb dX11_readText_59 li_0 ?_
    refine va_iald hx hb hG.1 hP 9 0 rfl rfl (vpi (by decide)) dX11_readText_60 ?_
    refine lv_bipush (v := 71) hx hb dX11_readText_61 lb_71 ?_
    refine lv_icmp_eq (tgt := 68) hx hb dX11_readText_63 (by decide) (fun c18 => ?_) (fun c18 => ?_)
    · have h := if_t c18 h
      refine lv_aload_n hx hb dX11_readText_68 rfl (lv_at hl 0 rfl) ?_
      refine lv_iconst (v := 1) hx hb dX11_readText_69 li_1 ?_
      obtain ⟨s19, e20, h⟩ := nm_ex h
      refine va_put (D := G.1) (cl := vwCl) (tys := tysG G) (ci := 11) (v := .int (1 : Int32)) (ty := .int) (C := RX11) (T := TX11) (N := 37) hx hb hts iX11 tyX11 tyX11_ok nmX11 hown hG.1 hP hD hS 0 rfl rfl 17 (Nat.le_of_ble_eq_true rfl) (hts _ tw_4_114) (fun _ h9 => h9) rfl (by decide +kernel) rfl rfl (Nat.le_of_ble_eq_true rfl) dX11_readText_70 (fun H locs hP hD hS => ?_)
      have hP : va_P G.1 vwCl (List.flatten [wX G xx s19]) H := by rw [e20]; exact hP
      have hD : va_D A (List.flatten [wX G xx s19]) := by rw [e20]; exact hD
      obtain ⟨z26, hz27, h⟩ := bd_ex h
      refine kX11_readText_73 K F xx z15.1 (fun H locs ls hP hD hS hl => ?_) F s19 _ _ _ hP hD hS (lv_sub hl [0, 1] rfl) hz27
      refine lv_aload_n hx hb dX11_readText_109 rfl (lv_at hl 0 rfl) ?_
      refine va_get (D := G.1) (cl := vwCl) (tys := tysG G) (ci := 11) (v := .int (z26.1 18)) (C := RX11) (T := TX11) (N := 37) hx hb hts iX11 hown hG.1 hP 0 rfl rfl 18 (Nat.le_of_ble_eq_true rfl) (hts _ tw_4_115) (fun _ h9 => h9) rfl dX11_readText_110 ?_
      cases h
      exact rt_i K hP hD hS dX11_readText_113
    · have h := if_f c18 h
      refine lv_iconst (v := 0) hx hb dX11_readText_66 li_0 ?_
      cases h
      exact rt_i K hP hD hS dX11_readText_67
def fX11_fault (F : Nat) (σxx : ST)  : Option (Int32 × ST) :=
  (fX11_readText F σxx).bind fun r1 =>
  some (r1.1, r1.2)
theorem cdX11_fault : CallD yX11_fault 0 := by decide +kernel
set_option maxHeartbeats 4000000 in
set_option maxRecDepth 100000 in
theorem mX11_fault (l : Launch) (G : GP) (F : Nat) (xx : Nat → Nat) (σxx : ST)  {r : Int32 × ST} (h : fX11_fault F σxx  = some r) : CC l G yX11_fault cX11_fault 1 (some .int) 6 [.ref (xx 0)] (List.flatten [wX G xx σxx]) (List.flatten [wX G xx r.2]) (some (.int r.1)) := by
  refine CC.of (by decide) (Nat.le_of_ble_eq_true rfl) ?_
  intro p e s m below meth c A K hP hD hS ls hl
  obtain ⟨hx, hb, hr, hml, hts, hown, hlocks, hA, hG⟩ := id K
  have hl : lv_has ls 1 [(0, .ref (xx 0))] := hl
  unfold fX11_fault at h
  refine lv_aload_n hx hb dX11_fault_0 rfl (lv_at hl 0 rfl) ?_
  obtain ⟨r1, hc2, h⟩ := bd_ex h
  refine sl_V (q0 := 0) (ci := 11) (C := RX11) K (mX11_readText l G F xx σxx hc2) tw_4_230 tw_1_12 tw_4_229 tw_0_1 tw_4_227 cdX11_readText ⟨Nat.le_of_ble_eq_true rfl, Nat.le_of_ble_eq_true rfl⟩ hP hD hS [0] rfl rfl rfl rfl rfl rfl rfl hl.1 (Nat.le_of_ble_eq_true rfl) ⟨Nat.zero_le _, Nat.zero_le _⟩ dX11_fault_1 (fun H locs hP hD hS => ?_)
  have hP : va_P G.1 vwCl (List.flatten [wX G xx r1.2]) H := hP
  have hD : va_D A (List.flatten [wX G xx r1.2]) := hD
  cases h
  exact rt_i K hP hD hS dX11_fault_4
def gbX11_place_38 (F : Nat)  (rc : Int32 → ST → Option (Int32 × ST)) (v1 : Int32) (σxx : ST) : Option (Int32 × ST) :=
  if (24 : Int32) ≤ v1 then
    some (v1, σxx)
  else
    if v1 < 0 ∨ 24 ≤ v1.toNatClampNeg then none else
    nm (sA σxx 7 v1.toNatClampNeg (σxx.2.1 0 v1.toNatClampNeg)) fun (s12 : ST) =>
    rc (v1 + 1) s12
def gX11_place_38 (F : Nat)  : Nat → Int32 → ST → Option (Int32 × ST)
  | 0, _, _ => none
  | n + 1, v1, σxx => gbX11_place_38 F  (gX11_place_38 F  n) v1 σxx
set_option maxHeartbeats 4000000 in
set_option maxRecDepth 100000 in
theorem kX11_place_38 {p : Program} {l : Launch} {e : Env} {s : State} {m : MethodId} {args : Array Value} {below : List Frame} {meth : Method} {c : Code} {A : Nat → Prop} {Q : State → Prop} {G : GP} (K : Cx p s m meth c G cX11_place RX11 2 (some .int) args A) (F : Nat) (xx : Nat → Nat)  {z : Int32 × ST} (kk : ∀ (H : Heap) (locs : List Loc) (ls : Array Slot), va_P G.1 vwCl (List.flatten [wX G xx z.2]) H → va_D A (List.flatten [wX G xx z.2]) → va_S A s.heap H locs → lv_has ls 2 [(0, .ref (xx 0)), (1, .int z.1)] → W p l e (RM 6) s m args below meth c H locs 0 0 Q (F0 m 62 ls [])) :
    ∀ (n : Nat) (v1 : Int32) (σxx : ST) (H : Heap) (locs : List Loc) (ls : Array Slot), va_P G.1 vwCl (List.flatten [wX G xx σxx]) H → va_D A (List.flatten [wX G xx σxx]) → va_S A s.heap H locs → lv_has ls 2 [(0, .ref (xx 0)), (1, .int v1)] → gX11_place_38 F  n v1 σxx = some z → W p l e (RM 6) s m args below meth c H locs 0 0 Q (F0 m 38 ls []) := by
  obtain ⟨hx, hb, hr, hml, hts, hown, hlocks, hA, hG⟩ := id K
  intro n
  induction n with
  | zero =>
    intro v1 σxx H locs ls hP hD hS hl h
    have h : none = some z := h
    cases h
  | succ n ih =>
    intro v1 σxx H locs ls hP hD hS hl h
    have h : gbX11_place_38 F  (gX11_place_38 F  n) v1 σxx = some z := h
    unfold gbX11_place_38 at h
    refine lv_iload_n hx hb dX11_place_38 rfl (lv_at hl 1 rfl) ?_
    refine lv_bipush (v := 24) hx hb dX11_place_39 lb_24 ?_
    refine lv_icmp_ge (tgt := 62) hx hb dX11_place_41 (by decide) (fun c10 => ?_) (fun c10 => ?_)
    · have h := if_t c10 h
      cases h
      exact kk _ _ _ hP hD hS (lv_sub hl [0, 1] rfl)
    · have h := if_f c10 h
      refine lv_aload_n hx hb dX11_place_44 rfl (lv_at hl 0 rfl) ?_
      refine va_get (D := G.1) (cl := vwCl) (tys := tysG G) (ci := 11) (v := .ref (xx 8)) (C := RX11) (T := TX11) (N := 37) hx hb hts iX11 hown hG.1 hP 0 rfl rfl 7 (Nat.le_of_ble_eq_true rfl) (hts _ tw_4_104) (fun _ h9 => h9) rfl dX11_place_45 ?_
      refine lv_iload_n hx hb dX11_place_48 rfl (lv_at hl 1 rfl) ?_
      refine lv_aload_n hx hb dX11_place_49 rfl (lv_at hl 0 rfl) ?_
      refine va_get (D := G.1) (cl := vwCl) (tys := tysG G) (ci := 11) (v := .ref (xx 1)) (C := RX11) (T := TX11) (N := 37) hx hb hts iX11 hown hG.1 hP 0 rfl rfl 0 (Nat.le_of_ble_eq_true rfl) (hts _ tw_4_97) (fun _ h9 => h9) rfl dX11_place_50 ?_
      refine lv_iload_n hx hb dX11_place_53 rfl (lv_at hl 1 rfl) ?_
      obtain ⟨ck11, h⟩ := ck h
      refine va_iald hx hb hG.1 hP 1 0 rfl rfl ck11 dX11_place_54 ?_
      obtain ⟨s12, e13, h⟩ := nm_ex h
      refine va_iast hx hb hG.1 hP hD hS 5 0 rfl rfl ck11 dX11_place_55 (fun H locs hP hD hS => ?_)
      have hP : va_P G.1 vwCl (List.flatten [wX G xx s12]) H := by rw [e13]; exact hP
      have hD : va_D A (List.flatten [wX G xx s12]) := by rw [e13]; exact hD
      refine lv_iinc (v := v1 + 1) (lv' := [(1, .int (v1 + 1)), (0, .ref (xx 0))]) hx hb dX11_place_56 hl (k := 1) rfl (by rw [li_1]) (Nat.le_of_ble_eq_true rfl) rfl (fun ls hl => ?_)
      refine lv_goto (tgt := 38) hx hb dX11_place_59 (by decide) ?_
      exact ih (v1 + 1) s12 _ _ _ hP hD hS (lv_sub hl [1, 0] rfl) h
def gbX11_place_64 (F : Nat)  (rc : Int32 → ST → Option (Int32 × ST)) (v1 : Int32) (σxx : ST) : Option (Int32 × ST) :=
  if (12 : Int32) ≤ v1 then
    some (v1, σxx)
  else
    if v1 < 0 ∨ 12 ≤ v1.toNatClampNeg then none else
    nm (sA σxx 8 v1.toNatClampNeg (σxx.2.1 1 v1.toNatClampNeg)) fun (s18 : ST) =>
    rc (v1 + 1) s18
def gX11_place_64 (F : Nat)  : Nat → Int32 → ST → Option (Int32 × ST)
  | 0, _, _ => none
  | n + 1, v1, σxx => gbX11_place_64 F  (gX11_place_64 F  n) v1 σxx
set_option maxHeartbeats 4000000 in
set_option maxRecDepth 100000 in
theorem kX11_place_64 {p : Program} {l : Launch} {e : Env} {s : State} {m : MethodId} {args : Array Value} {below : List Frame} {meth : Method} {c : Code} {A : Nat → Prop} {Q : State → Prop} {G : GP} (K : Cx p s m meth c G cX11_place RX11 2 (some .int) args A) (F : Nat) (xx : Nat → Nat)  {z : Int32 × ST} (kk : ∀ (H : Heap) (locs : List Loc) (ls : Array Slot), va_P G.1 vwCl (List.flatten [wX G xx z.2]) H → va_D A (List.flatten [wX G xx z.2]) → va_S A s.heap H locs → lv_has ls 2 [(0, .ref (xx 0)), (1, .int z.1)] → W p l e (RM 6) s m args below meth c H locs 0 0 Q (F0 m 88 ls [])) :
    ∀ (n : Nat) (v1 : Int32) (σxx : ST) (H : Heap) (locs : List Loc) (ls : Array Slot), va_P G.1 vwCl (List.flatten [wX G xx σxx]) H → va_D A (List.flatten [wX G xx σxx]) → va_S A s.heap H locs → lv_has ls 2 [(0, .ref (xx 0)), (1, .int v1)] → gX11_place_64 F  n v1 σxx = some z → W p l e (RM 6) s m args below meth c H locs 0 0 Q (F0 m 64 ls []) := by
  obtain ⟨hx, hb, hr, hml, hts, hown, hlocks, hA, hG⟩ := id K
  intro n
  induction n with
  | zero =>
    intro v1 σxx H locs ls hP hD hS hl h
    have h : none = some z := h
    cases h
  | succ n ih =>
    intro v1 σxx H locs ls hP hD hS hl h
    have h : gbX11_place_64 F  (gX11_place_64 F  n) v1 σxx = some z := h
    unfold gbX11_place_64 at h
    refine lv_iload_n hx hb dX11_place_64 rfl (lv_at hl 1 rfl) ?_
    refine lv_bipush (v := 12) hx hb dX11_place_65 lb_12 ?_
    refine lv_icmp_ge (tgt := 88) hx hb dX11_place_67 (by decide) (fun c16 => ?_) (fun c16 => ?_)
    · have h := if_t c16 h
      cases h
      exact kk _ _ _ hP hD hS (lv_sub hl [0, 1] rfl)
    · have h := if_f c16 h
      refine lv_aload_n hx hb dX11_place_70 rfl (lv_at hl 0 rfl) ?_
      refine va_get (D := G.1) (cl := vwCl) (tys := tysG G) (ci := 11) (v := .ref (xx 9)) (C := RX11) (T := TX11) (N := 37) hx hb hts iX11 hown hG.1 hP 0 rfl rfl 8 (Nat.le_of_ble_eq_true rfl) (hts _ tw_4_105) (fun _ h9 => h9) rfl dX11_place_71 ?_
      refine lv_iload_n hx hb dX11_place_74 rfl (lv_at hl 1 rfl) ?_
      refine lv_aload_n hx hb dX11_place_75 rfl (lv_at hl 0 rfl) ?_
      refine va_get (D := G.1) (cl := vwCl) (tys := tysG G) (ci := 11) (v := .ref (xx 2)) (C := RX11) (T := TX11) (N := 37) hx hb hts iX11 hown hG.1 hP 0 rfl rfl 1 (Nat.le_of_ble_eq_true rfl) (hts _ tw_4_98) (fun _ h9 => h9) rfl dX11_place_76 ?_
      refine lv_iload_n hx hb dX11_place_79 rfl (lv_at hl 1 rfl) ?_
      obtain ⟨ck17, h⟩ := ck h
      refine va_iald hx hb hG.1 hP 2 0 rfl rfl ck17 dX11_place_80 ?_
      obtain ⟨s18, e19, h⟩ := nm_ex h
      refine va_iast hx hb hG.1 hP hD hS 6 0 rfl rfl ck17 dX11_place_81 (fun H locs hP hD hS => ?_)
      have hP : va_P G.1 vwCl (List.flatten [wX G xx s18]) H := by rw [e19]; exact hP
      have hD : va_D A (List.flatten [wX G xx s18]) := by rw [e19]; exact hD
      refine lv_iinc (v := v1 + 1) (lv' := [(1, .int (v1 + 1)), (0, .ref (xx 0))]) hx hb dX11_place_82 hl (k := 1) rfl (by rw [li_1]) (Nat.le_of_ble_eq_true rfl) rfl (fun ls hl => ?_)
      refine lv_goto (tgt := 64) hx hb dX11_place_85 (by decide) ?_
      exact ih (v1 + 1) s18 _ _ _ hP hD hS (lv_sub hl [1, 0] rfl) h
def gbX11_place_90 (F : Nat)  (rc : Int32 → ST → Option (Int32 × ST)) (v1 : Int32) (σxx : ST) : Option (Int32 × ST) :=
  if (16 : Int32) ≤ v1 then
    some (v1, σxx)
  else
    if v1 < 0 ∨ 16 ≤ v1.toNatClampNeg then none else
    nm (sA σxx 9 v1.toNatClampNeg (σxx.2.1 2 v1.toNatClampNeg)) fun (s24 : ST) =>
    rc (v1 + 1) s24
def gX11_place_90 (F : Nat)  : Nat → Int32 → ST → Option (Int32 × ST)
  | 0, _, _ => none
  | n + 1, v1, σxx => gbX11_place_90 F  (gX11_place_90 F  n) v1 σxx
set_option maxHeartbeats 4000000 in
set_option maxRecDepth 100000 in
theorem kX11_place_90 {p : Program} {l : Launch} {e : Env} {s : State} {m : MethodId} {args : Array Value} {below : List Frame} {meth : Method} {c : Code} {A : Nat → Prop} {Q : State → Prop} {G : GP} (K : Cx p s m meth c G cX11_place RX11 2 (some .int) args A) (F : Nat) (xx : Nat → Nat)  {z : Int32 × ST} (kk : ∀ (H : Heap) (locs : List Loc) (ls : Array Slot), va_P G.1 vwCl (List.flatten [wX G xx z.2]) H → va_D A (List.flatten [wX G xx z.2]) → va_S A s.heap H locs → lv_has ls 2 [(0, .ref (xx 0)), (1, .int z.1)] → W p l e (RM 6) s m args below meth c H locs 0 0 Q (F0 m 114 ls [])) :
    ∀ (n : Nat) (v1 : Int32) (σxx : ST) (H : Heap) (locs : List Loc) (ls : Array Slot), va_P G.1 vwCl (List.flatten [wX G xx σxx]) H → va_D A (List.flatten [wX G xx σxx]) → va_S A s.heap H locs → lv_has ls 2 [(0, .ref (xx 0)), (1, .int v1)] → gX11_place_90 F  n v1 σxx = some z → W p l e (RM 6) s m args below meth c H locs 0 0 Q (F0 m 90 ls []) := by
  obtain ⟨hx, hb, hr, hml, hts, hown, hlocks, hA, hG⟩ := id K
  intro n
  induction n with
  | zero =>
    intro v1 σxx H locs ls hP hD hS hl h
    have h : none = some z := h
    cases h
  | succ n ih =>
    intro v1 σxx H locs ls hP hD hS hl h
    have h : gbX11_place_90 F  (gX11_place_90 F  n) v1 σxx = some z := h
    unfold gbX11_place_90 at h
    refine lv_iload_n hx hb dX11_place_90 rfl (lv_at hl 1 rfl) ?_
    refine lv_bipush (v := 16) hx hb dX11_place_91 lb_16 ?_
    refine lv_icmp_ge (tgt := 114) hx hb dX11_place_93 (by decide) (fun c22 => ?_) (fun c22 => ?_)
    · have h := if_t c22 h
      cases h
      exact kk _ _ _ hP hD hS (lv_sub hl [0, 1] rfl)
    · have h := if_f c22 h
      refine lv_aload_n hx hb dX11_place_96 rfl (lv_at hl 0 rfl) ?_
      refine va_get (D := G.1) (cl := vwCl) (tys := tysG G) (ci := 11) (v := .ref (xx 10)) (C := RX11) (T := TX11) (N := 37) hx hb hts iX11 hown hG.1 hP 0 rfl rfl 9 (Nat.le_of_ble_eq_true rfl) (hts _ tw_4_106) (fun _ h9 => h9) rfl dX11_place_97 ?_
      refine lv_iload_n hx hb dX11_place_100 rfl (lv_at hl 1 rfl) ?_
      refine lv_aload_n hx hb dX11_place_101 rfl (lv_at hl 0 rfl) ?_
      refine va_get (D := G.1) (cl := vwCl) (tys := tysG G) (ci := 11) (v := .ref (xx 3)) (C := RX11) (T := TX11) (N := 37) hx hb hts iX11 hown hG.1 hP 0 rfl rfl 2 (Nat.le_of_ble_eq_true rfl) (hts _ tw_4_99) (fun _ h9 => h9) rfl dX11_place_102 ?_
      refine lv_iload_n hx hb dX11_place_105 rfl (lv_at hl 1 rfl) ?_
      obtain ⟨ck23, h⟩ := ck h
      refine va_iald hx hb hG.1 hP 3 0 rfl rfl ck23 dX11_place_106 ?_
      obtain ⟨s24, e25, h⟩ := nm_ex h
      refine va_iast hx hb hG.1 hP hD hS 7 0 rfl rfl ck23 dX11_place_107 (fun H locs hP hD hS => ?_)
      have hP : va_P G.1 vwCl (List.flatten [wX G xx s24]) H := by rw [e25]; exact hP
      have hD : va_D A (List.flatten [wX G xx s24]) := by rw [e25]; exact hD
      refine lv_iinc (v := v1 + 1) (lv' := [(1, .int (v1 + 1)), (0, .ref (xx 0))]) hx hb dX11_place_108 hl (k := 1) rfl (by rw [li_1]) (Nat.le_of_ble_eq_true rfl) rfl (fun ls hl => ?_)
      refine lv_goto (tgt := 90) hx hb dX11_place_111 (by decide) ?_
      exact ih (v1 + 1) s24 _ _ _ hP hD hS (lv_sub hl [1, 0] rfl) h
def gbX11_place_121 (F : Nat)  (rc : Int32 → ST → Option (Int32 × ST)) (v1 : Int32) (σxx : ST) : Option (Int32 × ST) :=
  if (6 : Int32) ≤ v1 then
    some (v1, σxx)
  else
    if v1 < 0 ∨ 6 ≤ v1.toNatClampNeg then none else
    if (σxx.2.1 3 v1.toNatClampNeg) = (-9 : Int32) then
      nm (sI σxx 14 ((σxx.1 14) ||| (0 : Int32))) fun (s40 : ST) =>
      if (s40.2.1 3 v1.toNatClampNeg) = (-9 : Int32) then
        nm (sA s40 10 v1.toNatClampNeg (0 : Int32)) fun (s45 : ST) =>
        rc (v1 + 1) s45
      else
        nm (sA s40 10 v1.toNatClampNeg (s40.2.1 3 v1.toNatClampNeg)) fun (s43 : ST) =>
        rc (v1 + 1) s43
    else
      nm (sI σxx 14 ((σxx.1 14) ||| ((1 : Int32) <<< (v1 &&& 31)))) fun (s33 : ST) =>
      if (s33.2.1 3 v1.toNatClampNeg) = (-9 : Int32) then
        nm (sA s33 10 v1.toNatClampNeg (0 : Int32)) fun (s38 : ST) =>
        rc (v1 + 1) s38
      else
        nm (sA s33 10 v1.toNatClampNeg (s33.2.1 3 v1.toNatClampNeg)) fun (s36 : ST) =>
        rc (v1 + 1) s36
def gX11_place_121 (F : Nat)  : Nat → Int32 → ST → Option (Int32 × ST)
  | 0, _, _ => none
  | n + 1, v1, σxx => gbX11_place_121 F  (gX11_place_121 F  n) v1 σxx
set_option maxHeartbeats 4000000 in
set_option maxRecDepth 100000 in
theorem kX11_place_121 {p : Program} {l : Launch} {e : Env} {s : State} {m : MethodId} {args : Array Value} {below : List Frame} {meth : Method} {c : Code} {A : Nat → Prop} {Q : State → Prop} {G : GP} (K : Cx p s m meth c G cX11_place RX11 2 (some .int) args A) (F : Nat) (xx : Nat → Nat)  {z : Int32 × ST} (kk : ∀ (H : Heap) (locs : List Loc) (ls : Array Slot), va_P G.1 vwCl (List.flatten [wX G xx z.2]) H → va_D A (List.flatten [wX G xx z.2]) → va_S A s.heap H locs → lv_has ls 2 [(0, .ref (xx 0)), (1, .int z.1)] → W p l e (RM 6) s m args below meth c H locs 0 0 Q (F0 m 187 ls [])) :
    ∀ (n : Nat) (v1 : Int32) (σxx : ST) (H : Heap) (locs : List Loc) (ls : Array Slot), va_P G.1 vwCl (List.flatten [wX G xx σxx]) H → va_D A (List.flatten [wX G xx σxx]) → va_S A s.heap H locs → lv_has ls 2 [(0, .ref (xx 0)), (1, .int v1)] → gX11_place_121 F  n v1 σxx = some z → W p l e (RM 6) s m args below meth c H locs 0 0 Q (F0 m 121 ls []) := by
  obtain ⟨hx, hb, hr, hml, hts, hown, hlocks, hA, hG⟩ := id K
  intro n
  induction n with
  | zero =>
    intro v1 σxx H locs ls hP hD hS hl h
    have h : none = some z := h
    cases h
  | succ n ih =>
    intro v1 σxx H locs ls hP hD hS hl h
    have h : gbX11_place_121 F  (gX11_place_121 F  n) v1 σxx = some z := h
    unfold gbX11_place_121 at h
    refine lv_iload_n hx hb dX11_place_121 rfl (lv_at hl 1 rfl) ?_
    refine lv_bipush (v := 6) hx hb dX11_place_122 lb_6 ?_
    refine lv_icmp_ge (tgt := 187) hx hb dX11_place_124 (by decide) (fun c30 => ?_) (fun c30 => ?_)
    · have h := if_t c30 h
      cases h
      exact kk _ _ _ hP hD hS (lv_sub hl [0, 1] rfl)
    · have h := if_f c30 h
      refine lv_aload_n hx hb dX11_place_127 rfl (lv_at hl 0 rfl) ?_
      refine lv_dup hx hb dX11_place_128 rfl ?_
      refine va_get (D := G.1) (cl := vwCl) (tys := tysG G) (ci := 11) (v := .int (σxx.1 14)) (C := RX11) (T := TX11) (N := 37) hx hb hts iX11 hown hG.1 hP 0 rfl rfl 14 (Nat.le_of_ble_eq_true rfl) (hts _ tw_4_111) (fun _ h9 => h9) rfl dX11_place_129 ?_
      refine lv_aload_n hx hb dX11_place_132 rfl (lv_at hl 0 rfl) ?_
      refine va_get (D := G.1) (cl := vwCl) (tys := tysG G) (ci := 11) (v := .ref (xx 4)) (C := RX11) (T := TX11) (N := 37) hx hb hts iX11 hown hG.1 hP 0 rfl rfl 3 (Nat.le_of_ble_eq_true rfl) (hts _ tw_4_100) (fun _ h9 => h9) rfl dX11_place_133 ?_
      refine lv_iload_n hx hb dX11_place_136 rfl (lv_at hl 1 rfl) ?_
      obtain ⟨ck31, h⟩ := ck h
      refine va_iald hx hb hG.1 hP 4 0 rfl rfl ck31 dX11_place_137 ?_
      refine lv_bipush (v := -9) hx hb dX11_place_138 lb_m9 ?_
      refine lv_icmp_ne (tgt := 147) hx hb dX11_place_140 (by decide) (fun c32 => ?_) (fun c32 => ?_)
      · have h := if_f c32 h
        refine lv_iconst (v := 1) hx hb dX11_place_147 li_1 ?_
        refine lv_iload_n hx hb dX11_place_148 rfl (lv_at hl 1 rfl) ?_
        refine lv_ishl hx hb dX11_place_149 ?_
        refine lv_ior hx hb dX11_place_150 ?_
        obtain ⟨s33, e34, h⟩ := nm_ex h
        refine va_put (D := G.1) (cl := vwCl) (tys := tysG G) (ci := 11) (v := .int ((σxx.1 14) ||| ((1 : Int32) <<< (v1 &&& 31)))) (ty := .int) (C := RX11) (T := TX11) (N := 37) hx hb hts iX11 tyX11 tyX11_ok nmX11 hown hG.1 hP hD hS 0 rfl rfl 14 (Nat.le_of_ble_eq_true rfl) (hts _ tw_4_111) (fun _ h9 => h9) rfl (by decide +kernel) rfl rfl (Nat.le_of_ble_eq_true rfl) dX11_place_151 (fun H locs hP hD hS => ?_)
        have hP : va_P G.1 vwCl (List.flatten [wX G xx s33]) H := by rw [e34]; exact hP
        have hD : va_D A (List.flatten [wX G xx s33]) := by rw [e34]; exact hD
        refine lv_aload_n hx hb dX11_place_154 rfl (lv_at hl 0 rfl) ?_
        refine va_get (D := G.1) (cl := vwCl) (tys := tysG G) (ci := 11) (v := .ref (xx 11)) (C := RX11) (T := TX11) (N := 37) hx hb hts iX11 hown hG.1 hP 0 rfl rfl 10 (Nat.le_of_ble_eq_true rfl) (hts _ tw_4_107) (fun _ h9 => h9) rfl dX11_place_155 ?_
        refine lv_iload_n hx hb dX11_place_158 rfl (lv_at hl 1 rfl) ?_
        refine lv_aload_n hx hb dX11_place_159 rfl (lv_at hl 0 rfl) ?_
        refine va_get (D := G.1) (cl := vwCl) (tys := tysG G) (ci := 11) (v := .ref (xx 4)) (C := RX11) (T := TX11) (N := 37) hx hb hts iX11 hown hG.1 hP 0 rfl rfl 3 (Nat.le_of_ble_eq_true rfl) (hts _ tw_4_100) (fun _ h9 => h9) rfl dX11_place_160 ?_
        refine lv_iload_n hx hb dX11_place_163 rfl (lv_at hl 1 rfl) ?_
        refine va_iald hx hb hG.1 hP 4 0 rfl rfl ck31 dX11_place_164 ?_
        refine lv_bipush (v := -9) hx hb dX11_place_165 lb_m9 ?_
        refine lv_icmp_ne (tgt := 174) hx hb dX11_place_167 (by decide) (fun c35 => ?_) (fun c35 => ?_)
        · have h := if_f c35 h
          refine lv_aload_n hx hb dX11_place_174 rfl (lv_at hl 0 rfl) ?_
          refine va_get (D := G.1) (cl := vwCl) (tys := tysG G) (ci := 11) (v := .ref (xx 4)) (C := RX11) (T := TX11) (N := 37) hx hb hts iX11 hown hG.1 hP 0 rfl rfl 3 (Nat.le_of_ble_eq_true rfl) (hts _ tw_4_100) (fun _ h9 => h9) rfl dX11_place_175 ?_
          refine lv_iload_n hx hb dX11_place_178 rfl (lv_at hl 1 rfl) ?_
          refine va_iald hx hb hG.1 hP 4 0 rfl rfl ck31 dX11_place_179 ?_
          obtain ⟨s36, e37, h⟩ := nm_ex h
          refine va_iast hx hb hG.1 hP hD hS 8 0 rfl rfl ck31 dX11_place_180 (fun H locs hP hD hS => ?_)
          have hP : va_P G.1 vwCl (List.flatten [wX G xx s36]) H := by rw [e37]; exact hP
          have hD : va_D A (List.flatten [wX G xx s36]) := by rw [e37]; exact hD
          refine lv_iinc (v := v1 + 1) (lv' := [(1, .int (v1 + 1)), (0, .ref (xx 0))]) hx hb dX11_place_181 hl (k := 1) rfl (by rw [li_1]) (Nat.le_of_ble_eq_true rfl) rfl (fun ls hl => ?_)
          refine lv_goto (tgt := 121) hx hb dX11_place_184 (by decide) ?_
          exact ih (v1 + 1) s36 _ _ _ hP hD hS (lv_sub hl [1, 0] rfl) h
        · have h := if_t c35 h
          refine lv_iconst (v := 0) hx hb dX11_place_170 li_0 ?_
          refine lv_goto (tgt := 180) hx hb dX11_place_171 (by decide) ?_
          obtain ⟨s38, e39, h⟩ := nm_ex h
          refine va_iast hx hb hG.1 hP hD hS 8 0 rfl rfl ck31 dX11_place_180 (fun H locs hP hD hS => ?_)
          have hP : va_P G.1 vwCl (List.flatten [wX G xx s38]) H := by rw [e39]; exact hP
          have hD : va_D A (List.flatten [wX G xx s38]) := by rw [e39]; exact hD
          refine lv_iinc (v := v1 + 1) (lv' := [(1, .int (v1 + 1)), (0, .ref (xx 0))]) hx hb dX11_place_181 hl (k := 1) rfl (by rw [li_1]) (Nat.le_of_ble_eq_true rfl) rfl (fun ls hl => ?_)
          refine lv_goto (tgt := 121) hx hb dX11_place_184 (by decide) ?_
          exact ih (v1 + 1) s38 _ _ _ hP hD hS (lv_sub hl [1, 0] rfl) h
      · have h := if_t c32 h
        refine lv_iconst (v := 0) hx hb dX11_place_143 li_0 ?_
        refine lv_goto (tgt := 150) hx hb dX11_place_144 (by decide) ?_
        refine lv_ior hx hb dX11_place_150 ?_
        obtain ⟨s40, e41, h⟩ := nm_ex h
        refine va_put (D := G.1) (cl := vwCl) (tys := tysG G) (ci := 11) (v := .int ((σxx.1 14) ||| (0 : Int32))) (ty := .int) (C := RX11) (T := TX11) (N := 37) hx hb hts iX11 tyX11 tyX11_ok nmX11 hown hG.1 hP hD hS 0 rfl rfl 14 (Nat.le_of_ble_eq_true rfl) (hts _ tw_4_111) (fun _ h9 => h9) rfl (by decide +kernel) rfl rfl (Nat.le_of_ble_eq_true rfl) dX11_place_151 (fun H locs hP hD hS => ?_)
        have hP : va_P G.1 vwCl (List.flatten [wX G xx s40]) H := by rw [e41]; exact hP
        have hD : va_D A (List.flatten [wX G xx s40]) := by rw [e41]; exact hD
        refine lv_aload_n hx hb dX11_place_154 rfl (lv_at hl 0 rfl) ?_
        refine va_get (D := G.1) (cl := vwCl) (tys := tysG G) (ci := 11) (v := .ref (xx 11)) (C := RX11) (T := TX11) (N := 37) hx hb hts iX11 hown hG.1 hP 0 rfl rfl 10 (Nat.le_of_ble_eq_true rfl) (hts _ tw_4_107) (fun _ h9 => h9) rfl dX11_place_155 ?_
        refine lv_iload_n hx hb dX11_place_158 rfl (lv_at hl 1 rfl) ?_
        refine lv_aload_n hx hb dX11_place_159 rfl (lv_at hl 0 rfl) ?_
        refine va_get (D := G.1) (cl := vwCl) (tys := tysG G) (ci := 11) (v := .ref (xx 4)) (C := RX11) (T := TX11) (N := 37) hx hb hts iX11 hown hG.1 hP 0 rfl rfl 3 (Nat.le_of_ble_eq_true rfl) (hts _ tw_4_100) (fun _ h9 => h9) rfl dX11_place_160 ?_
        refine lv_iload_n hx hb dX11_place_163 rfl (lv_at hl 1 rfl) ?_
        refine va_iald hx hb hG.1 hP 4 0 rfl rfl ck31 dX11_place_164 ?_
        refine lv_bipush (v := -9) hx hb dX11_place_165 lb_m9 ?_
        refine lv_icmp_ne (tgt := 174) hx hb dX11_place_167 (by decide) (fun c42 => ?_) (fun c42 => ?_)
        · have h := if_f c42 h
          refine lv_aload_n hx hb dX11_place_174 rfl (lv_at hl 0 rfl) ?_
          refine va_get (D := G.1) (cl := vwCl) (tys := tysG G) (ci := 11) (v := .ref (xx 4)) (C := RX11) (T := TX11) (N := 37) hx hb hts iX11 hown hG.1 hP 0 rfl rfl 3 (Nat.le_of_ble_eq_true rfl) (hts _ tw_4_100) (fun _ h9 => h9) rfl dX11_place_175 ?_
          refine lv_iload_n hx hb dX11_place_178 rfl (lv_at hl 1 rfl) ?_
          refine va_iald hx hb hG.1 hP 4 0 rfl rfl ck31 dX11_place_179 ?_
          obtain ⟨s43, e44, h⟩ := nm_ex h
          refine va_iast hx hb hG.1 hP hD hS 8 0 rfl rfl ck31 dX11_place_180 (fun H locs hP hD hS => ?_)
          have hP : va_P G.1 vwCl (List.flatten [wX G xx s43]) H := by rw [e44]; exact hP
          have hD : va_D A (List.flatten [wX G xx s43]) := by rw [e44]; exact hD
          refine lv_iinc (v := v1 + 1) (lv' := [(1, .int (v1 + 1)), (0, .ref (xx 0))]) hx hb dX11_place_181 hl (k := 1) rfl (by rw [li_1]) (Nat.le_of_ble_eq_true rfl) rfl (fun ls hl => ?_)
          refine lv_goto (tgt := 121) hx hb dX11_place_184 (by decide) ?_
          exact ih (v1 + 1) s43 _ _ _ hP hD hS (lv_sub hl [1, 0] rfl) h
        · have h := if_t c42 h
          refine lv_iconst (v := 0) hx hb dX11_place_170 li_0 ?_
          refine lv_goto (tgt := 180) hx hb dX11_place_171 (by decide) ?_
          obtain ⟨s45, e46, h⟩ := nm_ex h
          refine va_iast hx hb hG.1 hP hD hS 8 0 rfl rfl ck31 dX11_place_180 (fun H locs hP hD hS => ?_)
          have hP : va_P G.1 vwCl (List.flatten [wX G xx s45]) H := by rw [e46]; exact hP
          have hD : va_D A (List.flatten [wX G xx s45]) := by rw [e46]; exact hD
          refine lv_iinc (v := v1 + 1) (lv' := [(1, .int (v1 + 1)), (0, .ref (xx 0))]) hx hb dX11_place_181 hl (k := 1) rfl (by rw [li_1]) (Nat.le_of_ble_eq_true rfl) rfl (fun ls hl => ?_)
          refine lv_goto (tgt := 121) hx hb dX11_place_184 (by decide) ?_
          exact ih (v1 + 1) s45 _ _ _ hP hD hS (lv_sub hl [1, 0] rfl) h
def fX11_place (F : Nat) (σxx : ST)  : Option (Int32 × ST) :=
  (fX11_readText F σxx).bind fun r1 =>
  if r1.1 = (-9 : Int32) then
    nm (sI r1.2 11 (r1.2.1 4)) fun (s4 : ST) =>
    nm (sI s4 12 (s4.1 5)) fun (s6 : ST) =>
    nm (sI s6 13 (s6.1 6)) fun (s8 : ST) =>
    (gX11_place_38 F  F (0 : Int32) s8).bind fun z14 =>
      (gX11_place_64 F  F (0 : Int32) z14.2).bind fun z20 =>
        (gX11_place_90 F  F (0 : Int32) z20.2).bind fun z26 =>
          nm (sI z26.2 14 (0 : Int32)) fun (s28 : ST) =>
          (gX11_place_121 F  F (0 : Int32) s28).bind fun z47 =>
            nm (sI z47.2 19 (0 : Int32)) fun (s49 : ST) =>
            nm (sA s49 32 (0 : Int32).toNatClampNeg (vp_nar .boolean (0 : Int32))) fun (s51 : ST) =>
            nm (sA s51 32 (1 : Int32).toNatClampNeg (vp_nar .boolean (0 : Int32))) fun (s53 : ST) =>
            some (s53.1 11, s53)
  else
    some ((-3 : Int32), r1.2)
theorem cdX11_place : CallD yX11_place 0 := by decide +kernel
set_option maxHeartbeats 4000000 in
set_option maxRecDepth 100000 in
theorem mX11_place (l : Launch) (G : GP) (F : Nat) (xx : Nat → Nat) (σxx : ST)  {r : Int32 × ST} (h : fX11_place F σxx  = some r) : CC l G yX11_place cX11_place 2 (some .int) 6 [.ref (xx 0)] (List.flatten [wX G xx σxx]) (List.flatten [wX G xx r.2]) (some (.int r.1)) := by
  refine CC.of (by decide) (Nat.le_of_ble_eq_true rfl) ?_
  intro p e s m below meth c A K hP hD hS ls hl
  obtain ⟨hx, hb, hr, hml, hts, hown, hlocks, hA, hG⟩ := id K
  have hl : lv_has ls 2 [(0, .ref (xx 0))] := hl
  unfold fX11_place at h
  refine lv_aload_n hx hb dX11_place_0 rfl (lv_at hl 0 rfl) ?_
  obtain ⟨r1, hc2, h⟩ := bd_ex h
  refine sl_V (q0 := 0) (ci := 11) (C := RX11) K (mX11_readText l G F xx σxx hc2) tw_4_230 tw_1_12 tw_4_229 tw_0_1 tw_4_227 cdX11_readText ⟨Nat.le_of_ble_eq_true rfl, Nat.le_of_ble_eq_true rfl⟩ hP hD hS [0] rfl rfl rfl rfl rfl rfl rfl hl.1 (Nat.le_of_ble_eq_true rfl) ⟨Nat.zero_le _, Nat.zero_le _⟩ dX11_place_1 (fun H locs hP hD hS => ?_)
  have hP : va_P G.1 vwCl (List.flatten [wX G xx r1.2]) H := hP
  have hD : va_D A (List.flatten [wX G xx r1.2]) := hD
  refine lv_bipush (v := -9) hx hb dX11_place_4 lb_m9 ?_
  refine lv_icmp_eq (tgt := 12) hx hb dX11_place_6 (by decide) (fun c3 => ?_) (fun c3 => ?_)
  · have h := if_t c3 h
    refine lv_aload_n hx hb dX11_place_12 rfl (lv_at hl 0 rfl) ?_
    refine lv_aload_n hx hb dX11_place_13 rfl (lv_at hl 0 rfl) ?_
    refine va_get (D := G.1) (cl := vwCl) (tys := tysG G) (ci := 11) (v := .int (r1.2.1 4)) (C := RX11) (T := TX11) (N := 37) hx hb hts iX11 hown hG.1 hP 0 rfl rfl 4 (Nat.le_of_ble_eq_true rfl) (hts _ tw_4_101) (fun _ h9 => h9) rfl dX11_place_14 ?_
    obtain ⟨s4, e5, h⟩ := nm_ex h
    refine va_put (D := G.1) (cl := vwCl) (tys := tysG G) (ci := 11) (v := .int (r1.2.1 4)) (ty := .int) (C := RX11) (T := TX11) (N := 37) hx hb hts iX11 tyX11 tyX11_ok nmX11 hown hG.1 hP hD hS 0 rfl rfl 11 (Nat.le_of_ble_eq_true rfl) (hts _ tw_4_108) (fun _ h9 => h9) rfl (by decide +kernel) rfl rfl (Nat.le_of_ble_eq_true rfl) dX11_place_17 (fun H locs hP hD hS => ?_)
    have hP : va_P G.1 vwCl (List.flatten [wX G xx s4]) H := by rw [e5]; exact hP
    have hD : va_D A (List.flatten [wX G xx s4]) := by rw [e5]; exact hD
    refine lv_aload_n hx hb dX11_place_20 rfl (lv_at hl 0 rfl) ?_
    refine lv_aload_n hx hb dX11_place_21 rfl (lv_at hl 0 rfl) ?_
    refine va_get (D := G.1) (cl := vwCl) (tys := tysG G) (ci := 11) (v := .int (s4.1 5)) (C := RX11) (T := TX11) (N := 37) hx hb hts iX11 hown hG.1 hP 0 rfl rfl 5 (Nat.le_of_ble_eq_true rfl) (hts _ tw_4_102) (fun _ h9 => h9) rfl dX11_place_22 ?_
    obtain ⟨s6, e7, h⟩ := nm_ex h
    refine va_put (D := G.1) (cl := vwCl) (tys := tysG G) (ci := 11) (v := .int (s4.1 5)) (ty := .int) (C := RX11) (T := TX11) (N := 37) hx hb hts iX11 tyX11 tyX11_ok nmX11 hown hG.1 hP hD hS 0 rfl rfl 12 (Nat.le_of_ble_eq_true rfl) (hts _ tw_4_109) (fun _ h9 => h9) rfl (by decide +kernel) rfl rfl (Nat.le_of_ble_eq_true rfl) dX11_place_25 (fun H locs hP hD hS => ?_)
    have hP : va_P G.1 vwCl (List.flatten [wX G xx s6]) H := by rw [e7]; exact hP
    have hD : va_D A (List.flatten [wX G xx s6]) := by rw [e7]; exact hD
    refine lv_aload_n hx hb dX11_place_28 rfl (lv_at hl 0 rfl) ?_
    refine lv_aload_n hx hb dX11_place_29 rfl (lv_at hl 0 rfl) ?_
    refine va_get (D := G.1) (cl := vwCl) (tys := tysG G) (ci := 11) (v := .int (s6.1 6)) (C := RX11) (T := TX11) (N := 37) hx hb hts iX11 hown hG.1 hP 0 rfl rfl 6 (Nat.le_of_ble_eq_true rfl) (hts _ tw_4_103) (fun _ h9 => h9) rfl dX11_place_30 ?_
    obtain ⟨s8, e9, h⟩ := nm_ex h
    refine va_put (D := G.1) (cl := vwCl) (tys := tysG G) (ci := 11) (v := .int (s6.1 6)) (ty := .int) (C := RX11) (T := TX11) (N := 37) hx hb hts iX11 tyX11 tyX11_ok nmX11 hown hG.1 hP hD hS 0 rfl rfl 13 (Nat.le_of_ble_eq_true rfl) (hts _ tw_4_110) (fun _ h9 => h9) rfl (by decide +kernel) rfl rfl (Nat.le_of_ble_eq_true rfl) dX11_place_33 (fun H locs hP hD hS => ?_)
    have hP : va_P G.1 vwCl (List.flatten [wX G xx s8]) H := by rw [e9]; exact hP
    have hD : va_D A (List.flatten [wX G xx s8]) := by rw [e9]; exact hD
    refine lv_iconst (v := 0) hx hb dX11_place_36 li_0 ?_
    refine lv_istore_n (lv' := [(1, .int (0 : Int32)), (0, .ref (xx 0))]) hx hb dX11_place_37 rfl hl (Nat.le_of_ble_eq_true rfl) rfl (fun ls hl => ?_)
    obtain ⟨z14, hz15, h⟩ := bd_ex h
    refine kX11_place_38 K F xx  (fun H locs ls hP hD hS hl => ?_) F (0 : Int32) s8 _ _ _ hP hD hS (lv_sub hl [1, 0] rfl) hz15
    refine lv_iconst (v := 0) hx hb dX11_place_62 li_0 ?_
    refine lv_istore_n (lv' := [(1, .int (0 : Int32)), (0, .ref (xx 0))]) hx hb dX11_place_63 rfl hl (Nat.le_of_ble_eq_true rfl) rfl (fun ls hl => ?_)
    obtain ⟨z20, hz21, h⟩ := bd_ex h
    refine kX11_place_64 K F xx  (fun H locs ls hP hD hS hl => ?_) F (0 : Int32) z14.2 _ _ _ hP hD hS (lv_sub hl [1, 0] rfl) hz21
    refine lv_iconst (v := 0) hx hb dX11_place_88 li_0 ?_
    refine lv_istore_n (lv' := [(1, .int (0 : Int32)), (0, .ref (xx 0))]) hx hb dX11_place_89 rfl hl (Nat.le_of_ble_eq_true rfl) rfl (fun ls hl => ?_)
    obtain ⟨z26, hz27, h⟩ := bd_ex h
    refine kX11_place_90 K F xx  (fun H locs ls hP hD hS hl => ?_) F (0 : Int32) z20.2 _ _ _ hP hD hS (lv_sub hl [1, 0] rfl) hz27
    refine lv_aload_n hx hb dX11_place_114 rfl (lv_at hl 0 rfl) ?_
    refine lv_iconst (v := 0) hx hb dX11_place_115 li_0 ?_
    obtain ⟨s28, e29, h⟩ := nm_ex h
    refine va_put (D := G.1) (cl := vwCl) (tys := tysG G) (ci := 11) (v := .int (0 : Int32)) (ty := .int) (C := RX11) (T := TX11) (N := 37) hx hb hts iX11 tyX11 tyX11_ok nmX11 hown hG.1 hP hD hS 0 rfl rfl 14 (Nat.le_of_ble_eq_true rfl) (hts _ tw_4_111) (fun _ h9 => h9) rfl (by decide +kernel) rfl rfl (Nat.le_of_ble_eq_true rfl) dX11_place_116 (fun H locs hP hD hS => ?_)
    have hP : va_P G.1 vwCl (List.flatten [wX G xx s28]) H := by rw [e29]; exact hP
    have hD : va_D A (List.flatten [wX G xx s28]) := by rw [e29]; exact hD
    refine lv_iconst (v := 0) hx hb dX11_place_119 li_0 ?_
    refine lv_istore_n (lv' := [(1, .int (0 : Int32)), (0, .ref (xx 0))]) hx hb dX11_place_120 rfl hl (Nat.le_of_ble_eq_true rfl) rfl (fun ls hl => ?_)
    obtain ⟨z47, hz48, h⟩ := bd_ex h
    refine kX11_place_121 K F xx  (fun H locs ls hP hD hS hl => ?_) F (0 : Int32) s28 _ _ _ hP hD hS (lv_sub hl [1, 0] rfl) hz48
    refine lv_aload_n hx hb dX11_place_187 rfl (lv_at hl 0 rfl) ?_
    refine lv_iconst (v := 0) hx hb dX11_place_188 li_0 ?_
    obtain ⟨s49, e50, h⟩ := nm_ex h
    refine va_put (D := G.1) (cl := vwCl) (tys := tysG G) (ci := 11) (v := .int (0 : Int32)) (ty := .int) (C := RX11) (T := TX11) (N := 37) hx hb hts iX11 tyX11 tyX11_ok nmX11 hown hG.1 hP hD hS 0 rfl rfl 19 (Nat.le_of_ble_eq_true rfl) (hts _ tw_4_116) (fun _ h9 => h9) rfl (by decide +kernel) rfl rfl (Nat.le_of_ble_eq_true rfl) dX11_place_189 (fun H locs hP hD hS => ?_)
    have hP : va_P G.1 vwCl (List.flatten [wX G xx s49]) H := by rw [e50]; exact hP
    have hD : va_D A (List.flatten [wX G xx s49]) := by rw [e50]; exact hD
    refine lv_aload_n hx hb dX11_place_192 rfl (lv_at hl 0 rfl) ?_
    refine va_get (D := G.1) (cl := vwCl) (tys := tysG G) (ci := 11) (v := .ref (xx 33)) (C := RX11) (T := TX11) (N := 37) hx hb hts iX11 hown hG.1 hP 0 rfl rfl 32 (Nat.le_of_ble_eq_true rfl) (hts _ tw_4_129) (fun _ h9 => h9) rfl dX11_place_193 ?_
    refine lv_iconst (v := 0) hx hb dX11_place_196 li_0 ?_
    refine lv_iconst (v := 0) hx hb dX11_place_197 li_0 ?_
    obtain ⟨s51, e52, h⟩ := nm_ex h
    refine va_zast hx hb hG.1 hP hD hS 16 2 rfl rfl (vpi (by decide)) dX11_place_198 (fun H locs hP hD hS => ?_)
    have hP : va_P G.1 vwCl (List.flatten [wX G xx s51]) H := by rw [e52]; exact hP
    have hD : va_D A (List.flatten [wX G xx s51]) := by rw [e52]; exact hD
    refine lv_aload_n hx hb dX11_place_199 rfl (lv_at hl 0 rfl) ?_
    refine va_get (D := G.1) (cl := vwCl) (tys := tysG G) (ci := 11) (v := .ref (xx 33)) (C := RX11) (T := TX11) (N := 37) hx hb hts iX11 hown hG.1 hP 0 rfl rfl 32 (Nat.le_of_ble_eq_true rfl) (hts _ tw_4_129) (fun _ h9 => h9) rfl dX11_place_200 ?_
    refine lv_iconst (v := 1) hx hb dX11_place_203 li_1 ?_
    refine lv_iconst (v := 0) hx hb dX11_place_204 li_0 ?_
    obtain ⟨s53, e54, h⟩ := nm_ex h
    refine va_zast hx hb hG.1 hP hD hS 16 2 rfl rfl (vpi (by decide)) dX11_place_205 (fun H locs hP hD hS => ?_)
    have hP : va_P G.1 vwCl (List.flatten [wX G xx s53]) H := by rw [e54]; exact hP
    have hD : va_D A (List.flatten [wX G xx s53]) := by rw [e54]; exact hD
    refine lv_aload_n hx hb dX11_place_206 rfl (lv_at hl 0 rfl) ?_
    refine va_get (D := G.1) (cl := vwCl) (tys := tysG G) (ci := 11) (v := .int (s53.1 11)) (C := RX11) (T := TX11) (N := 37) hx hb hts iX11 hown hG.1 hP 0 rfl rfl 11 (Nat.le_of_ble_eq_true rfl) (hts _ tw_4_108) (fun _ h9 => h9) rfl dX11_place_207 ?_
    cases h
    exact rt_i K hP hD hS dX11_place_210
  · have h := if_f c3 h
    refine lv_bipush (v := -3) hx hb dX11_place_9 lb_m3 ?_
    cases h
    exact rt_i K hP hD hS dX11_place_11
