def gbX10_write_36 (F : Nat) (v1 : Int32) (v2 : Int64) (rc : Int32 → ST → Option (Int32 × ST)) (v4 : Int32) (σtt : ST) : Option (Int32 × ST) :=
  if v4 < 0 then
    some (v4, σtt)
  else
    (fX9_add F σtt ((((v2.toUInt64 >>> (((8 : Int32) * v4).toInt64.toUInt64 &&& Int64.toUInt64 63)).toInt64).toInt32) &&& (255 : Int32))).bind fun r5 =>
    rc (v4 + (-1)) r5
def gX10_write_36 (F : Nat) (v1 : Int32) (v2 : Int64) : Nat → Int32 → ST → Option (Int32 × ST)
  | 0, _, _ => none
  | n + 1, v4, σtt => gbX10_write_36 F v1 v2 (gX10_write_36 F v1 v2 n) v4 σtt
set_option maxHeartbeats 4000000 in
set_option maxRecDepth 100000 in
theorem kX10_write_36 {p : Program} {l : Launch} {e : Env} {s : State} {m : MethodId} {args : Array Value} {below : List Frame} {meth : Method} {c : Code} {A : Nat → Prop} {Q : State → Prop} {G : GP} (K : Cx p s m meth c G cX10_write RX10 5 (some .int) args A) (F : Nat) (mm : Nat) (tt : Nat → Nat) (mm_reader : Nat) (mm_field : Nat) (mm_acts : Nat) (mm_seen : Nat) (mm_sights : Nat) (mm_rows : Nat) (mm_slots : Nat) (v1 : Int32) (v2 : Int64) {z : Int32 × ST} (kk : ∀ (H : Heap) (locs : List Loc) (ls : Array Slot), va_P G.1 vwCl (List.flatten [wM mm (tt 0) mm_reader mm_field mm_acts mm_seen mm_sights mm_rows mm_slots, wT G tt z.2]) H → va_D A (List.flatten [wM mm (tt 0) mm_reader mm_field mm_acts mm_seen mm_sights mm_rows mm_slots, wT G tt z.2]) → va_S A s.heap H locs → lv_has ls 5 [(0, .ref mm), (1, .int v1), (2, .long v2), (4, .int z.1)] → W p l e (RM 2) s m args below meth c H locs 0 0 Q (F0 m 66 ls [])) :
    ∀ (n : Nat) (v4 : Int32) (σtt : ST) (H : Heap) (locs : List Loc) (ls : Array Slot), va_P G.1 vwCl (List.flatten [wM mm (tt 0) mm_reader mm_field mm_acts mm_seen mm_sights mm_rows mm_slots, wT G tt σtt]) H → va_D A (List.flatten [wM mm (tt 0) mm_reader mm_field mm_acts mm_seen mm_sights mm_rows mm_slots, wT G tt σtt]) → va_S A s.heap H locs → lv_has ls 5 [(0, .ref mm), (1, .int v1), (2, .long v2), (4, .int v4)] → gX10_write_36 F v1 v2 n v4 σtt = some z → W p l e (RM 2) s m args below meth c H locs 0 0 Q (F0 m 36 ls []) := by
  obtain ⟨hx, hb, hr, hml, hts, hown, hlocks, hA, hG⟩ := id K
  intro n
  induction n with
  | zero =>
    intro v4 σtt H locs ls hP hD hS hl h
    have h : none = some z := h
    cases h
  | succ n ih =>
    intro v4 σtt H locs ls hP hD hS hl h
    have h : gbX10_write_36 F v1 v2 (gX10_write_36 F v1 v2 n) v4 σtt = some z := h
    unfold gbX10_write_36 at h
    refine lv_iload hx hb dX10_write_36 (lv_at hl 3 rfl) ?_
    refine lv_if_lt (tgt := 66) hx hb dX10_write_38 (by decide) (fun c4 => ?_) (fun c4 => ?_)
    · have h := if_t c4 h
      cases h
      exact kk _ _ _ hP hD hS (lv_sub hl [0, 1, 2, 3] rfl)
    · have h := if_f c4 h
      refine lv_aload_n hx hb dX10_write_41 rfl (lv_at hl 0 rfl) ?_
      refine va_get (D := G.1) (cl := vwCl) (tys := tysG G) (ci := 10) (v := .ref (tt 0)) (C := RX10) (T := TX10) (N := 8) hx hb hts iX10 hown hG.1 hP 0 rfl rfl 0 (Nat.le_of_ble_eq_true rfl) (hts _ tw_2_41) (fun _ h9 => h9) rfl dX10_write_42 ?_
      refine lv_lload_n hx hb dX10_write_45 rfl (lv_at hl 2 rfl) ?_
      refine lv_bipush (v := 8) hx hb dX10_write_46 lb_8 ?_
      refine lv_iload hx hb dX10_write_48 (lv_at hl 3 rfl) ?_
      refine lv_imul hx hb dX10_write_50 ?_
      refine lv_lushr (v := (v2.toUInt64 >>> (((8 : Int32) * v4).toInt64.toUInt64 &&& Int64.toUInt64 63)).toInt64) hx hb dX10_write_51 rfl ?_
      refine lv_l2i (v := ((v2.toUInt64 >>> (((8 : Int32) * v4).toInt64.toUInt64 &&& Int64.toUInt64 63)).toInt64).toInt32) hx hb dX10_write_52 rfl ?_
      refine lv_sipush (v := 255) hx hb dX10_write_53 lh_255 ?_
      refine lv_iand hx hb dX10_write_56 ?_
      obtain ⟨r5, hc6, h⟩ := bd_ex h
      refine sl_V (q0 := 1) (ci := 9) (C := RX9) K (mX9_add l G F tt σtt ((((v2.toUInt64 >>> (((8 : Int32) * v4).toInt64.toUInt64 &&& Int64.toUInt64 63)).toInt64).toInt32) &&& (255 : Int32)) hc6) tw_2_73 tw_1_2 tw_2_71 tw_2_72 tw_2_70 cdX9_add ⟨Nat.le_of_ble_eq_true rfl, Nat.le_of_ble_eq_true rfl⟩ hP hD hS [1] rfl rfl rfl rfl rfl rfl rfl hl.1 (Nat.le_of_ble_eq_true rfl) ⟨Nat.zero_le _, Nat.zero_le _⟩ dX10_write_57 (fun H locs hP hD hS => ?_)
      have hP : va_P G.1 vwCl (List.flatten [wM mm (tt 0) mm_reader mm_field mm_acts mm_seen mm_sights mm_rows mm_slots, wT G tt r5]) H := hP
      have hD : va_D A (List.flatten [wM mm (tt 0) mm_reader mm_field mm_acts mm_seen mm_sights mm_rows mm_slots, wT G tt r5]) := hD
      refine lv_iinc (v := v4 + (-1)) (lv' := [(4, .int (v4 + (-1))), (0, .ref mm), (1, .int v1), (2, .long v2)]) hx hb dX10_write_60 hl (k := 3) rfl (by rw [li_m1]) (Nat.le_of_ble_eq_true rfl) rfl (fun ls hl => ?_)
      refine lv_goto (tgt := 36) hx hb dX10_write_63 (by decide) ?_
      exact ih (v4 + (-1)) r5 _ _ _ hP hD hS (lv_sub hl [1, 2, 3, 0] rfl) h
def fX10_write (F : Nat) (σtt : ST) (x1 : Int32) (x2 : Int64) : Option (Int32 × ST) :=
  if x1 < (1 : Int32) then
    some ((-2 : Int32), σtt)
  else
    if x1 ≤ (8 : Int32) then
      if ((σtt.1 1) + x1) ≤ (92 : Int32) then
        (gX10_write_36 F x1 x2 F (x1 - (1 : Int32)) σtt).bind fun z7 =>
          some (z7.2.1 1, z7.2)
      else
        some ((-4 : Int32), σtt)
    else
      some ((-2 : Int32), σtt)
theorem cdX10_write : CallD yX10_write 2 := by decide +kernel
set_option maxHeartbeats 4000000 in
set_option maxRecDepth 100000 in
theorem mX10_write (l : Launch) (G : GP) (F : Nat) (mm : Nat) (tt : Nat → Nat) (mm_reader : Nat) (mm_field : Nat) (mm_acts : Nat) (mm_seen : Nat) (mm_sights : Nat) (mm_rows : Nat) (mm_slots : Nat) (σtt : ST) (x1 : Int32) (x2 : Int64) {r : Int32 × ST} (h : fX10_write F σtt x1 x2 = some r) : CC l G yX10_write cX10_write 5 (some .int) 2 [.ref mm, .int x1, .long x2] (List.flatten [wM mm (tt 0) mm_reader mm_field mm_acts mm_seen mm_sights mm_rows mm_slots, wT G tt σtt]) (List.flatten [wM mm (tt 0) mm_reader mm_field mm_acts mm_seen mm_sights mm_rows mm_slots, wT G tt r.2]) (some (.int r.1)) := by
  refine CC.of (by decide) (Nat.le_of_ble_eq_true rfl) ?_
  intro p e s m below meth c A K hP hD hS ls hl
  obtain ⟨hx, hb, hr, hml, hts, hown, hlocks, hA, hG⟩ := id K
  have hl : lv_has ls 5 [(0, .ref mm), (1, .int x1), (2, .long x2)] := hl
  unfold fX10_write at h
  refine lv_iload_n hx hb dX10_write_0 rfl (lv_at hl 1 rfl) ?_
  refine lv_iconst (v := 1) hx hb dX10_write_1 li_1 ?_
  refine lv_icmp_lt (tgt := 11) hx hb dX10_write_2 (by decide) (fun c1 => ?_) (fun c1 => ?_)
  · have h := if_t c1 h
    refine lv_bipush (v := -2) hx hb dX10_write_11 lb_m2 ?_
    cases h
    exact rt_i K hP hD hS dX10_write_13
  · have h := if_f c1 h
    refine lv_iload_n hx hb dX10_write_5 rfl (lv_at hl 1 rfl) ?_
    refine lv_bipush (v := 8) hx hb dX10_write_6 lb_8 ?_
    refine lv_icmp_le (tgt := 14) hx hb dX10_write_8 (by decide) (fun c2 => ?_) (fun c2 => ?_)
    · have h := if_t c2 h
      refine lv_aload_n hx hb dX10_write_14 rfl (lv_at hl 0 rfl) ?_
      refine va_get (D := G.1) (cl := vwCl) (tys := tysG G) (ci := 10) (v := .ref (tt 0)) (C := RX10) (T := TX10) (N := 8) hx hb hts iX10 hown hG.1 hP 0 rfl rfl 0 (Nat.le_of_ble_eq_true rfl) (hts _ tw_2_41) (fun _ h9 => h9) rfl dX10_write_15 ?_
      refine va_get (D := G.1) (cl := vwCl) (tys := tysG G) (ci := 9) (v := .int (σtt.1 1)) (C := RX9) (T := TX9) (N := 2) hx hb hts iX9 hown hG.1 hP 1 rfl rfl 1 (Nat.le_of_ble_eq_true rfl) (hts _ tw_1_37) (fun _ h9 => h9) rfl dX10_write_18 ?_
      refine lv_iload_n hx hb dX10_write_21 rfl (lv_at hl 1 rfl) ?_
      refine lv_iadd hx hb dX10_write_22 ?_
      refine lv_bipush (v := 92) hx hb dX10_write_23 lb_92 ?_
      refine lv_icmp_le (tgt := 31) hx hb dX10_write_25 (by decide) (fun c3 => ?_) (fun c3 => ?_)
      · have h := if_t c3 h
        refine lv_iload_n hx hb dX10_write_31 rfl (lv_at hl 1 rfl) ?_
        refine lv_iconst (v := 1) hx hb dX10_write_32 li_1 ?_
        refine lv_isub hx hb dX10_write_33 ?_
        refine lv_istore (lv' := [(4, .int (x1 - (1 : Int32))), (0, .ref mm), (1, .int x1), (2, .long x2)]) hx hb dX10_write_34 hl (Nat.le_of_ble_eq_true rfl) rfl (fun ls hl => ?_)
        obtain ⟨z7, hz8, h⟩ := bd_ex h
        refine kX10_write_36 K F mm tt mm_reader mm_field mm_acts mm_seen mm_sights mm_rows mm_slots x1 x2 (fun H locs ls hP hD hS hl => ?_) F (x1 - (1 : Int32)) σtt _ _ _ hP hD hS (lv_sub hl [1, 2, 3, 0] rfl) hz8
        refine lv_aload_n hx hb dX10_write_66 rfl (lv_at hl 0 rfl) ?_
        refine va_get (D := G.1) (cl := vwCl) (tys := tysG G) (ci := 10) (v := .ref (tt 0)) (C := RX10) (T := TX10) (N := 8) hx hb hts iX10 hown hG.1 hP 0 rfl rfl 0 (Nat.le_of_ble_eq_true rfl) (hts _ tw_2_41) (fun _ h9 => h9) rfl dX10_write_67 ?_
        refine va_get (D := G.1) (cl := vwCl) (tys := tysG G) (ci := 9) (v := .int (z7.2.1 1)) (C := RX9) (T := TX9) (N := 2) hx hb hts iX9 hown hG.1 hP 1 rfl rfl 1 (Nat.le_of_ble_eq_true rfl) (hts _ tw_1_37) (fun _ h9 => h9) rfl dX10_write_70 ?_
        cases h
        exact rt_i K hP hD hS dX10_write_73
      · have h := if_f c3 h
        refine lv_bipush (v := -4) hx hb dX10_write_28 lb_m4 ?_
        cases h
        exact rt_i K hP hD hS dX10_write_30
    · have h := if_f c2 h
      refine lv_bipush (v := -2) hx hb dX10_write_11 lb_m2 ?_
      cases h
      exact rt_i K hP hD hS dX10_write_13
def fX10_wipe (F : Nat) (σtt : ST)  : Option (Int32 × ST) :=
  nm (sI σtt 1 (0 : Int32)) fun (s1 : ST) =>
  some (σtt.1 1, s1)
theorem cdX10_wipe : CallD yX10_wipe 0 := by decide +kernel
set_option maxHeartbeats 4000000 in
set_option maxRecDepth 100000 in
theorem mX10_wipe (l : Launch) (G : GP) (F : Nat) (mm : Nat) (tt : Nat → Nat) (mm_reader : Nat) (mm_field : Nat) (mm_acts : Nat) (mm_seen : Nat) (mm_sights : Nat) (mm_rows : Nat) (mm_slots : Nat) (σtt : ST)  {r : Int32 × ST} (h : fX10_wipe F σtt  = some r) : CC l G yX10_wipe cX10_wipe 2 (some .int) 1 [.ref mm] (List.flatten [wM mm (tt 0) mm_reader mm_field mm_acts mm_seen mm_sights mm_rows mm_slots, wT G tt σtt]) (List.flatten [wM mm (tt 0) mm_reader mm_field mm_acts mm_seen mm_sights mm_rows mm_slots, wT G tt r.2]) (some (.int r.1)) := by
  refine CC.of (by decide) (Nat.le_of_ble_eq_true rfl) ?_
  intro p e s m below meth c A K hP hD hS ls hl
  obtain ⟨hx, hb, hr, hml, hts, hown, hlocks, hA, hG⟩ := id K
  have hl : lv_has ls 2 [(0, .ref mm)] := hl
  unfold fX10_wipe at h
  refine lv_aload_n hx hb dX10_wipe_0 rfl (lv_at hl 0 rfl) ?_
  refine va_get (D := G.1) (cl := vwCl) (tys := tysG G) (ci := 10) (v := .ref (tt 0)) (C := RX10) (T := TX10) (N := 8) hx hb hts iX10 hown hG.1 hP 0 rfl rfl 0 (Nat.le_of_ble_eq_true rfl) (hts _ tw_2_41) (fun _ h9 => h9) rfl dX10_wipe_1 ?_
  refine va_get (D := G.1) (cl := vwCl) (tys := tysG G) (ci := 9) (v := .int (σtt.1 1)) (C := RX9) (T := TX9) (N := 2) hx hb hts iX9 hown hG.1 hP 1 rfl rfl 1 (Nat.le_of_ble_eq_true rfl) (hts _ tw_1_37) (fun _ h9 => h9) rfl dX10_wipe_4 ?_
  refine lv_istore_n (lv' := [(1, .int (σtt.1 1)), (0, .ref mm)]) hx hb dX10_wipe_7 rfl hl (Nat.le_of_ble_eq_true rfl) rfl (fun ls hl => ?_)
  refine lv_aload_n hx hb dX10_wipe_8 rfl (lv_at hl 1 rfl) ?_
  refine va_get (D := G.1) (cl := vwCl) (tys := tysG G) (ci := 10) (v := .ref (tt 0)) (C := RX10) (T := TX10) (N := 8) hx hb hts iX10 hown hG.1 hP 0 rfl rfl 0 (Nat.le_of_ble_eq_true rfl) (hts _ tw_2_41) (fun _ h9 => h9) rfl dX10_wipe_9 ?_
  refine lv_iconst (v := 0) hx hb dX10_wipe_12 li_0 ?_
  obtain ⟨s1, e2, h⟩ := nm_ex h
  refine va_put (D := G.1) (cl := vwCl) (tys := tysG G) (ci := 9) (v := .int (0 : Int32)) (ty := .int) (C := RX9) (T := TX9) (N := 2) hx hb hts iX9 tyX9 tyX9_ok nmX9 hown hG.1 hP hD hS 1 rfl rfl 1 (Nat.le_of_ble_eq_true rfl) (hts _ tw_1_37) (fun _ h9 => h9) rfl (by decide +kernel) rfl rfl (Nat.le_of_ble_eq_true rfl) dX10_wipe_13 (fun H locs hP hD hS => ?_)
  have hP : va_P G.1 vwCl (List.flatten [wM mm (tt 0) mm_reader mm_field mm_acts mm_seen mm_sights mm_rows mm_slots, wT G tt s1]) H := by rw [e2]; exact hP
  have hD : va_D A (List.flatten [wM mm (tt 0) mm_reader mm_field mm_acts mm_seen mm_sights mm_rows mm_slots, wT G tt s1]) := by rw [e2]; exact hD
  refine lv_iload_n hx hb dX10_wipe_16 rfl (lv_at hl 0 rfl) ?_
  cases h
  exact rt_i K hP hD hS dX10_wipe_17
def fX10_fault (F : Nat) (σtt : ST) (σee : ST) (σb2 : ST) (σd2 : ST)  : Option (Int32 × ST × ST × ST) :=
  (fX5_firstFault F σee σb2 σd2 σtt).bind fun r1 =>
  some (r1.1, r1.2.1, r1.2.2.1, r1.2.2.2)
theorem cdX10_fault : CallD yX10_fault 0 := by decide +kernel
set_option maxHeartbeats 4000000 in
set_option maxRecDepth 100000 in
theorem mX10_fault (l : Launch) (G : GP) (F : Nat) (mm : Nat) (tt : Nat → Nat) (ee : Nat → Nat) (f2 : Nat) (b2 : Nat → Nat) (d2 : Nat → Nat) (mm_field : Nat) (mm_acts : Nat) (mm_seen : Nat) (mm_sights : Nat) (mm_rows : Nat) (mm_slots : Nat) (σtt : ST) (σee : ST) (σb2 : ST) (σd2 : ST)  {r : Int32 × ST × ST × ST} (h : fX10_fault F σtt σee σb2 σd2  = some r) : CC l G yX10_fault cX10_fault 1 (some .int) 7 [.ref mm] (List.flatten [wM mm (tt 0) (ee 0) mm_field mm_acts mm_seen mm_sights mm_rows mm_slots, wT G tt σtt, wE G ee f2 σee, wF f2 (b2 0) (d2 0), wB G b2 σb2, wD G d2 σd2]) (List.flatten [wM mm (tt 0) (ee 0) mm_field mm_acts mm_seen mm_sights mm_rows mm_slots, wT G tt σtt, wE G ee f2 r.2.1, wF f2 (b2 0) (d2 0), wB G b2 r.2.2.1, wD G d2 r.2.2.2]) (some (.int r.1)) := by
  refine CC.of (by decide) (Nat.le_of_ble_eq_true rfl) ?_
  intro p e s m below meth c A K hP hD hS ls hl
  obtain ⟨hx, hb, hr, hml, hts, hown, hlocks, hA, hG⟩ := id K
  have hl : lv_has ls 1 [(0, .ref mm)] := hl
  unfold fX10_fault at h
  refine lv_aload_n hx hb dX10_fault_0 rfl (lv_at hl 0 rfl) ?_
  refine va_get (D := G.1) (cl := vwCl) (tys := tysG G) (ci := 10) (v := .ref (ee 0)) (C := RX10) (T := TX10) (N := 8) hx hb hts iX10 hown hG.1 hP 0 rfl rfl 1 (Nat.le_of_ble_eq_true rfl) (hts _ tw_2_42) (fun _ h9 => h9) rfl dX10_fault_1 ?_
  refine lv_aload_n hx hb dX10_fault_4 rfl (lv_at hl 0 rfl) ?_
  refine va_get (D := G.1) (cl := vwCl) (tys := tysG G) (ci := 10) (v := .ref (tt 0)) (C := RX10) (T := TX10) (N := 8) hx hb hts iX10 hown hG.1 hP 0 rfl rfl 0 (Nat.le_of_ble_eq_true rfl) (hts _ tw_2_41) (fun _ h9 => h9) rfl dX10_fault_5 ?_
  obtain ⟨r1, hc2, h⟩ := bd_ex h
  refine sl_V (q0 := 3) (ci := 5) (C := RX5) K (mX5_firstFault l G F ee f2 b2 d2 tt σee σb2 σd2 σtt hc2) tw_2_85 tw_1_3 tw_2_83 tw_2_84 tw_2_82 cdX5_firstFault ⟨Nat.le_of_ble_eq_true rfl, Nat.le_of_ble_eq_true rfl⟩ hP hD hS [2, 3, 4, 5, 1] rfl rfl rfl rfl rfl rfl rfl hl.1 (Nat.le_of_ble_eq_true rfl) ⟨Nat.zero_le _, Nat.zero_le _⟩ dX10_fault_8 (fun H locs hP hD hS => ?_)
  have hP : va_P G.1 vwCl (List.flatten [wM mm (tt 0) (ee 0) mm_field mm_acts mm_seen mm_sights mm_rows mm_slots, wT G tt σtt, wE G ee f2 r1.2.1, wF f2 (b2 0) (d2 0), wB G b2 r1.2.2.1, wD G d2 r1.2.2.2]) H := hP
  have hD : va_D A (List.flatten [wM mm (tt 0) (ee 0) mm_field mm_acts mm_seen mm_sights mm_rows mm_slots, wT G tt σtt, wE G ee f2 r1.2.1, wF f2 (b2 0) (d2 0), wB G b2 r1.2.2.1, wD G d2 r1.2.2.2]) := hD
  cases h
  exact rt_i K hP hD hS dX10_fault_11
def gbX10_place_42 (F : Nat) (σtt : ST) (σee : ST) (σb2 : ST) (σd2 : ST) (σbb : ST) (σdd : ST) (σaa : ST) (rc : Int32 → ST → ST → Option (Int32 × ST × ST)) (v1 : Int32) (σl0 : ST) (σl1 : ST) : Option (Int32 × ST × ST) :=
  if (2 : Int32) ≤ v1 then
    some (v1, σl0, σl1)
  else
    if v1 = 0 then
      nm (sI σl0 2 (0 : Int32)) fun (s10 : ST) =>
      rc (v1 + 1) s10 σl1
    else
    if v1 = 1 then
      nm (sI σl1 2 (0 : Int32)) fun (s13 : ST) =>
      rc (v1 + 1) σl0 s13
    else
      none
def gX10_place_42 (F : Nat) (σtt : ST) (σee : ST) (σb2 : ST) (σd2 : ST) (σbb : ST) (σdd : ST) (σaa : ST) : Nat → Int32 → ST → ST → Option (Int32 × ST × ST)
  | 0, _, _, _ => none
  | n + 1, v1, σl0, σl1 => gbX10_place_42 F σtt σee σb2 σd2 σbb σdd σaa (gX10_place_42 F σtt σee σb2 σd2 σbb σdd σaa n) v1 σl0 σl1
set_option maxHeartbeats 4000000 in
set_option maxRecDepth 100000 in
theorem kX10_place_42 {p : Program} {l : Launch} {e : Env} {s : State} {m : MethodId} {args : Array Value} {below : List Frame} {meth : Method} {c : Code} {A : Nat → Prop} {Q : State → Prop} {G : GP} (K : Cx p s m meth c G cX10_place RX10 2 (some .int) args A) (F : Nat) (mm : Nat) (tt : Nat → Nat) (ee : Nat → Nat) (f2 : Nat) (b2 : Nat → Nat) (d2 : Nat → Nat) (ff : Nat) (bb : Nat → Nat) (dd : Nat → Nat) (aa : Nat → Nat) (zz : Nat) (l0 : Nat) (l1 : Nat) (mm_seen : Nat) (mm_sights : Nat) (mm_rows : Nat) (l0_bodies : Nat) (l0_sights : Nat) (l1_bodies : Nat) (l1_sights : Nat) (σtt : ST) (σee : ST) (σb2 : ST) (σd2 : ST) (σbb : ST) (σdd : ST) (σaa : ST) {z : Int32 × ST × ST} (kk : ∀ (H : Heap) (locs : List Loc) (ls : Array Slot), va_P G.1 vwCl (List.flatten [wM mm (tt 0) (ee 0) ff (aa 0) mm_seen mm_sights mm_rows zz, wT G tt σtt, wE G ee f2 σee, wF f2 (b2 0) (d2 0), wB G b2 σb2, wD G d2 σd2, wF ff (bb 0) (dd 0), wB G bb σbb, wD G dd σdd, wA G aa σaa, wZ G zz l0 l1, wL l0 l0_bodies l0_sights z.2.1, wL l1 l1_bodies l1_sights z.2.2]) H → va_D A (List.flatten [wM mm (tt 0) (ee 0) ff (aa 0) mm_seen mm_sights mm_rows zz, wT G tt σtt, wE G ee f2 σee, wF f2 (b2 0) (d2 0), wB G b2 σb2, wD G d2 σd2, wF ff (bb 0) (dd 0), wB G bb σbb, wD G dd σdd, wA G aa σaa, wZ G zz l0 l1, wL l0 l0_bodies l0_sights z.2.1, wL l1 l1_bodies l1_sights z.2.2]) → va_S A s.heap H locs → lv_has ls 2 [(0, .ref mm), (1, .int z.1)] → W p l e (RM 7) s m args below meth c H locs 0 0 Q (F0 m 63 ls [])) :
    ∀ (n : Nat) (v1 : Int32) (σl0 : ST) (σl1 : ST) (H : Heap) (locs : List Loc) (ls : Array Slot), va_P G.1 vwCl (List.flatten [wM mm (tt 0) (ee 0) ff (aa 0) mm_seen mm_sights mm_rows zz, wT G tt σtt, wE G ee f2 σee, wF f2 (b2 0) (d2 0), wB G b2 σb2, wD G d2 σd2, wF ff (bb 0) (dd 0), wB G bb σbb, wD G dd σdd, wA G aa σaa, wZ G zz l0 l1, wL l0 l0_bodies l0_sights σl0, wL l1 l1_bodies l1_sights σl1]) H → va_D A (List.flatten [wM mm (tt 0) (ee 0) ff (aa 0) mm_seen mm_sights mm_rows zz, wT G tt σtt, wE G ee f2 σee, wF f2 (b2 0) (d2 0), wB G b2 σb2, wD G d2 σd2, wF ff (bb 0) (dd 0), wB G bb σbb, wD G dd σdd, wA G aa σaa, wZ G zz l0 l1, wL l0 l0_bodies l0_sights σl0, wL l1 l1_bodies l1_sights σl1]) → va_S A s.heap H locs → lv_has ls 2 [(0, .ref mm), (1, .int v1)] → gX10_place_42 F σtt σee σb2 σd2 σbb σdd σaa n v1 σl0 σl1 = some z → W p l e (RM 7) s m args below meth c H locs 0 0 Q (F0 m 42 ls []) := by
  obtain ⟨hx, hb, hr, hml, hts, hown, hlocks, hA, hG⟩ := id K
  intro n
  induction n with
  | zero =>
    intro v1 σl0 σl1 H locs ls hP hD hS hl h
    have h : none = some z := h
    cases h
  | succ n ih =>
    intro v1 σl0 σl1 H locs ls hP hD hS hl h
    have h : gbX10_place_42 F σtt σee σb2 σd2 σbb σdd σaa (gX10_place_42 F σtt σee σb2 σd2 σbb σdd σaa n) v1 σl0 σl1 = some z := h
    unfold gbX10_place_42 at h
    refine lv_iload_n hx hb dX10_place_42 rfl (lv_at hl 1 rfl) ?_
    refine lv_iconst (v := 2) hx hb dX10_place_43 li_2 ?_
    refine lv_icmp_ge (tgt := 63) hx hb dX10_place_44 (by decide) (fun c8 => ?_) (fun c8 => ?_)
    · have h := if_t c8 h
      cases h
      exact kk _ _ _ hP hD hS (lv_sub hl [0, 1] rfl)
    · have h := if_f c8 h
      refine lv_aload_n hx hb dX10_place_47 rfl (lv_at hl 0 rfl) ?_
      refine va_get (D := G.1) (cl := vwCl) (tys := tysG G) (ci := 10) (v := .ref zz) (C := RX10) (T := TX10) (N := 8) hx hb hts iX10 hown hG.1 hP 0 rfl rfl 7 (Nat.le_of_ble_eq_true rfl) (hts _ tw_2_48) (fun _ h9 => h9) rfl dX10_place_48 ?_
      refine lv_iload_n hx hb dX10_place_51 rfl (lv_at hl 1 rfl) ?_
      by_cases c9 : v1 = 0
      · have h := if_t c9 h
        refine my_aald hx hb hG.1 hP 43 5 rfl rfl (b := l0) rfl (by rw [c9]; exact vpi (by decide)) (by rw [c9]; rfl) dX10_place_52 ?_
        refine lv_iconst (v := 0) hx hb dX10_place_53 li_0 ?_
        obtain ⟨s10, e11, h⟩ := nm_ex h
        refine va_put (D := G.1) (cl := vwCl) (tys := tysG G) (ci := 8) (v := .int (0 : Int32)) (ty := .boolean) (C := RX8) (T := TX8) (N := 3) hx hb hts iX8 tyX8 tyX8_ok nmX8 hown hG.1 hP hD hS 44 rfl rfl 2 (Nat.le_of_ble_eq_true rfl) (hts _ tw_2_33) (fun _ h9 => h9) rfl (by decide +kernel) rfl rfl (Nat.le_of_ble_eq_true rfl) dX10_place_54 (fun H locs hP hD hS => ?_)
        have hP : va_P G.1 vwCl (List.flatten [wM mm (tt 0) (ee 0) ff (aa 0) mm_seen mm_sights mm_rows zz, wT G tt σtt, wE G ee f2 σee, wF f2 (b2 0) (d2 0), wB G b2 σb2, wD G d2 σd2, wF ff (bb 0) (dd 0), wB G bb σbb, wD G dd σdd, wA G aa σaa, wZ G zz l0 l1, wL l0 l0_bodies l0_sights s10, wL l1 l1_bodies l1_sights σl1]) H := by rw [e11]; exact hP
        have hD : va_D A (List.flatten [wM mm (tt 0) (ee 0) ff (aa 0) mm_seen mm_sights mm_rows zz, wT G tt σtt, wE G ee f2 σee, wF f2 (b2 0) (d2 0), wB G b2 σb2, wD G d2 σd2, wF ff (bb 0) (dd 0), wB G bb σbb, wD G dd σdd, wA G aa σaa, wZ G zz l0 l1, wL l0 l0_bodies l0_sights s10, wL l1 l1_bodies l1_sights σl1]) := by rw [e11]; exact hD
        refine lv_iinc (v := v1 + 1) (lv' := [(1, .int (v1 + 1)), (0, .ref mm)]) hx hb dX10_place_57 hl (k := 1) rfl (by rw [li_1]) (Nat.le_of_ble_eq_true rfl) rfl (fun ls hl => ?_)
        refine lv_goto (tgt := 42) hx hb dX10_place_60 (by decide) ?_
        exact ih (v1 + 1) s10 σl1 _ _ _ hP hD hS (lv_sub hl [1, 0] rfl) h
      have h := if_f c9 h
      by_cases c12 : v1 = 1
      · have h := if_t c12 h
        refine my_aald hx hb hG.1 hP 43 5 rfl rfl (b := l1) rfl (by rw [c12]; exact vpi (by decide)) (by rw [c12]; rfl) dX10_place_52 ?_
        refine lv_iconst (v := 0) hx hb dX10_place_53 li_0 ?_
        obtain ⟨s13, e14, h⟩ := nm_ex h
        refine va_put (D := G.1) (cl := vwCl) (tys := tysG G) (ci := 8) (v := .int (0 : Int32)) (ty := .boolean) (C := RX8) (T := TX8) (N := 3) hx hb hts iX8 tyX8 tyX8_ok nmX8 hown hG.1 hP hD hS 45 rfl rfl 2 (Nat.le_of_ble_eq_true rfl) (hts _ tw_2_33) (fun _ h9 => h9) rfl (by decide +kernel) rfl rfl (Nat.le_of_ble_eq_true rfl) dX10_place_54 (fun H locs hP hD hS => ?_)
        have hP : va_P G.1 vwCl (List.flatten [wM mm (tt 0) (ee 0) ff (aa 0) mm_seen mm_sights mm_rows zz, wT G tt σtt, wE G ee f2 σee, wF f2 (b2 0) (d2 0), wB G b2 σb2, wD G d2 σd2, wF ff (bb 0) (dd 0), wB G bb σbb, wD G dd σdd, wA G aa σaa, wZ G zz l0 l1, wL l0 l0_bodies l0_sights σl0, wL l1 l1_bodies l1_sights s13]) H := by rw [e14]; exact hP
        have hD : va_D A (List.flatten [wM mm (tt 0) (ee 0) ff (aa 0) mm_seen mm_sights mm_rows zz, wT G tt σtt, wE G ee f2 σee, wF f2 (b2 0) (d2 0), wB G b2 σb2, wD G d2 σd2, wF ff (bb 0) (dd 0), wB G bb σbb, wD G dd σdd, wA G aa σaa, wZ G zz l0 l1, wL l0 l0_bodies l0_sights σl0, wL l1 l1_bodies l1_sights s13]) := by rw [e14]; exact hD
        refine lv_iinc (v := v1 + 1) (lv' := [(1, .int (v1 + 1)), (0, .ref mm)]) hx hb dX10_place_57 hl (k := 1) rfl (by rw [li_1]) (Nat.le_of_ble_eq_true rfl) rfl (fun ls hl => ?_)
        refine lv_goto (tgt := 42) hx hb dX10_place_60 (by decide) ?_
        exact ih (v1 + 1) σl0 s13 _ _ _ hP hD hS (lv_sub hl [1, 0] rfl) h
      have h := if_f c12 h
      cases h
def fX10_place (F : Nat) (σtt : ST) (σee : ST) (σb2 : ST) (σd2 : ST) (σbb : ST) (σdd : ST) (σaa : ST) (σl0 : ST) (σl1 : ST)  : Option (Int32 × ST × ST × ST × ST × ST × ST × ST × ST) :=
  (fX5_firstFault F σee σb2 σd2 σtt).bind fun r1 =>
  if r1.1 = (-9 : Int32) then
    (fX2_copyFrom F σbb σdd r1.2.2.1 r1.2.2.2).bind fun r4 =>
    (fX0_forget F σaa).bind fun r6 =>
    (gX10_place_42 F σtt r1.2.1 r1.2.2.1 r1.2.2.2 r4.1 r4.2 r6 F (0 : Int32) σl0 σl1).bind fun z15 =>
      some (r4.1.1 3, r1.2.1, r1.2.2.1, r1.2.2.2, r4.1, r4.2, r6, z15.2.1, z15.2.2)
  else
    some ((-3 : Int32), r1.2.1, r1.2.2.1, r1.2.2.2, σbb, σdd, σaa, σl0, σl1)
theorem cdX10_place : CallD yX10_place 0 := by decide +kernel
set_option maxHeartbeats 4000000 in
set_option maxRecDepth 100000 in
theorem mX10_place (l : Launch) (G : GP) (F : Nat) (mm : Nat) (tt : Nat → Nat) (ee : Nat → Nat) (f2 : Nat) (b2 : Nat → Nat) (d2 : Nat → Nat) (ff : Nat) (bb : Nat → Nat) (dd : Nat → Nat) (aa : Nat → Nat) (zz : Nat) (l0 : Nat) (l1 : Nat) (mm_seen : Nat) (mm_sights : Nat) (mm_rows : Nat) (l0_bodies : Nat) (l0_sights : Nat) (l1_bodies : Nat) (l1_sights : Nat) (σtt : ST) (σee : ST) (σb2 : ST) (σd2 : ST) (σbb : ST) (σdd : ST) (σaa : ST) (σl0 : ST) (σl1 : ST)  {r : Int32 × ST × ST × ST × ST × ST × ST × ST × ST} (h : fX10_place F σtt σee σb2 σd2 σbb σdd σaa σl0 σl1  = some r) : CC l G yX10_place cX10_place 2 (some .int) 7 [.ref mm] (List.flatten [wM mm (tt 0) (ee 0) ff (aa 0) mm_seen mm_sights mm_rows zz, wT G tt σtt, wE G ee f2 σee, wF f2 (b2 0) (d2 0), wB G b2 σb2, wD G d2 σd2, wF ff (bb 0) (dd 0), wB G bb σbb, wD G dd σdd, wA G aa σaa, wZ G zz l0 l1, wL l0 l0_bodies l0_sights σl0, wL l1 l1_bodies l1_sights σl1]) (List.flatten [wM mm (tt 0) (ee 0) ff (aa 0) mm_seen mm_sights mm_rows zz, wT G tt σtt, wE G ee f2 r.2.1, wF f2 (b2 0) (d2 0), wB G b2 r.2.2.1, wD G d2 r.2.2.2.1, wF ff (bb 0) (dd 0), wB G bb r.2.2.2.2.1, wD G dd r.2.2.2.2.2.1, wA G aa r.2.2.2.2.2.2.1, wZ G zz l0 l1, wL l0 l0_bodies l0_sights r.2.2.2.2.2.2.2.1, wL l1 l1_bodies l1_sights r.2.2.2.2.2.2.2.2]) (some (.int r.1)) := by
  refine CC.of (by decide) (Nat.le_of_ble_eq_true rfl) ?_
  intro p e s m below meth c A K hP hD hS ls hl
  obtain ⟨hx, hb, hr, hml, hts, hown, hlocks, hA, hG⟩ := id K
  have hl : lv_has ls 2 [(0, .ref mm)] := hl
  unfold fX10_place at h
  refine lv_aload_n hx hb dX10_place_0 rfl (lv_at hl 0 rfl) ?_
  refine va_get (D := G.1) (cl := vwCl) (tys := tysG G) (ci := 10) (v := .ref (ee 0)) (C := RX10) (T := TX10) (N := 8) hx hb hts iX10 hown hG.1 hP 0 rfl rfl 1 (Nat.le_of_ble_eq_true rfl) (hts _ tw_2_42) (fun _ h9 => h9) rfl dX10_place_1 ?_
  refine lv_aload_n hx hb dX10_place_4 rfl (lv_at hl 0 rfl) ?_
  refine va_get (D := G.1) (cl := vwCl) (tys := tysG G) (ci := 10) (v := .ref (tt 0)) (C := RX10) (T := TX10) (N := 8) hx hb hts iX10 hown hG.1 hP 0 rfl rfl 0 (Nat.le_of_ble_eq_true rfl) (hts _ tw_2_41) (fun _ h9 => h9) rfl dX10_place_5 ?_
  obtain ⟨r1, hc2, h⟩ := bd_ex h
  refine sl_V (q0 := 3) (ci := 5) (C := RX5) K (mX5_firstFault l G F ee f2 b2 d2 tt σee σb2 σd2 σtt hc2) tw_2_85 tw_1_3 tw_2_83 tw_2_84 tw_2_82 cdX5_firstFault ⟨Nat.le_of_ble_eq_true rfl, Nat.le_of_ble_eq_true rfl⟩ hP hD hS [2, 3, 4, 5, 1] rfl rfl rfl rfl rfl rfl rfl hl.1 (Nat.le_of_ble_eq_true rfl) ⟨Nat.zero_le _, Nat.zero_le _⟩ dX10_place_8 (fun H locs hP hD hS => ?_)
  have hP : va_P G.1 vwCl (List.flatten [wM mm (tt 0) (ee 0) ff (aa 0) mm_seen mm_sights mm_rows zz, wT G tt σtt, wE G ee f2 r1.2.1, wF f2 (b2 0) (d2 0), wB G b2 r1.2.2.1, wD G d2 r1.2.2.2, wF ff (bb 0) (dd 0), wB G bb σbb, wD G dd σdd, wA G aa σaa, wZ G zz l0 l1, wL l0 l0_bodies l0_sights σl0, wL l1 l1_bodies l1_sights σl1]) H := hP
  have hD : va_D A (List.flatten [wM mm (tt 0) (ee 0) ff (aa 0) mm_seen mm_sights mm_rows zz, wT G tt σtt, wE G ee f2 r1.2.1, wF f2 (b2 0) (d2 0), wB G b2 r1.2.2.1, wD G d2 r1.2.2.2, wF ff (bb 0) (dd 0), wB G bb σbb, wD G dd σdd, wA G aa σaa, wZ G zz l0 l1, wL l0 l0_bodies l0_sights σl0, wL l1 l1_bodies l1_sights σl1]) := hD
  refine lv_bipush (v := -9) hx hb dX10_place_11 lb_m9 ?_
  refine lv_icmp_eq (tgt := 19) hx hb dX10_place_13 (by decide) (fun c3 => ?_) (fun c3 => ?_)
  · have h := if_t c3 h
    refine lv_aload_n hx hb dX10_place_19 rfl (lv_at hl 0 rfl) ?_
    refine va_get (D := G.1) (cl := vwCl) (tys := tysG G) (ci := 10) (v := .ref ff) (C := RX10) (T := TX10) (N := 8) hx hb hts iX10 hown hG.1 hP 0 rfl rfl 2 (Nat.le_of_ble_eq_true rfl) (hts _ tw_2_43) (fun _ h9 => h9) rfl dX10_place_20 ?_
    refine lv_aload_n hx hb dX10_place_23 rfl (lv_at hl 0 rfl) ?_
    refine va_get (D := G.1) (cl := vwCl) (tys := tysG G) (ci := 10) (v := .ref (ee 0)) (C := RX10) (T := TX10) (N := 8) hx hb hts iX10 hown hG.1 hP 0 rfl rfl 1 (Nat.le_of_ble_eq_true rfl) (hts _ tw_2_42) (fun _ h9 => h9) rfl dX10_place_24 ?_
    refine va_get (D := G.1) (cl := vwCl) (tys := tysG G) (ci := 5) (v := .ref f2) (C := RX5) (T := TX5) (N := 5) hx hb hts iX5 hown hG.1 hP 3 rfl rfl 0 (Nat.le_of_ble_eq_true rfl) (hts _ tw_1_136) (fun _ h9 => h9) rfl dX10_place_27 ?_
    obtain ⟨r4, hc5, h⟩ := bd_ex h
    refine sl_V (q0 := 21) (ci := 2) (C := RX2) K (mX2_copyFrom l G F ff bb dd f2 b2 d2 σbb σdd r1.2.2.1 r1.2.2.2 hc5) tw_3_30 tw_1_4 tw_3_28 tw_3_29 tw_3_27 cdX2_copyFrom ⟨Nat.le_of_ble_eq_true rfl, Nat.le_of_ble_eq_true rfl⟩ hP hD hS [6, 7, 8, 3, 4, 5] rfl rfl rfl rfl rfl rfl rfl hl.1 (Nat.le_of_ble_eq_true rfl) ⟨Nat.zero_le _, Nat.zero_le _⟩ dX10_place_30 (fun H locs hP hD hS => ?_)
    have hP : va_P G.1 vwCl (List.flatten [wM mm (tt 0) (ee 0) ff (aa 0) mm_seen mm_sights mm_rows zz, wT G tt σtt, wE G ee f2 r1.2.1, wF f2 (b2 0) (d2 0), wB G b2 r1.2.2.1, wD G d2 r1.2.2.2, wF ff (bb 0) (dd 0), wB G bb r4.1, wD G dd r4.2, wA G aa σaa, wZ G zz l0 l1, wL l0 l0_bodies l0_sights σl0, wL l1 l1_bodies l1_sights σl1]) H := hP
    have hD : va_D A (List.flatten [wM mm (tt 0) (ee 0) ff (aa 0) mm_seen mm_sights mm_rows zz, wT G tt σtt, wE G ee f2 r1.2.1, wF f2 (b2 0) (d2 0), wB G b2 r1.2.2.1, wD G d2 r1.2.2.2, wF ff (bb 0) (dd 0), wB G bb r4.1, wD G dd r4.2, wA G aa σaa, wZ G zz l0 l1, wL l0 l0_bodies l0_sights σl0, wL l1 l1_bodies l1_sights σl1]) := hD
    refine lv_aload_n hx hb dX10_place_33 rfl (lv_at hl 0 rfl) ?_
    refine va_get (D := G.1) (cl := vwCl) (tys := tysG G) (ci := 10) (v := .ref (aa 0)) (C := RX10) (T := TX10) (N := 8) hx hb hts iX10 hown hG.1 hP 0 rfl rfl 3 (Nat.le_of_ble_eq_true rfl) (hts _ tw_2_44) (fun _ h9 => h9) rfl dX10_place_34 ?_
    obtain ⟨r6, hc7, h⟩ := bd_ex h
    refine sl_V (q0 := 37) (ci := 0) (C := RX0) K (mX0_forget l G F aa σaa hc7) tw_3_42 tw_1_7 tw_3_40 tw_3_41 tw_3_39 cdX0_forget ⟨Nat.le_of_ble_eq_true rfl, Nat.le_of_ble_eq_true rfl⟩ hP hD hS [9] rfl rfl rfl rfl rfl rfl rfl hl.1 (Nat.le_of_ble_eq_true rfl) ⟨Nat.zero_le _, Nat.zero_le _⟩ dX10_place_37 (fun H locs hP hD hS => ?_)
    have hP : va_P G.1 vwCl (List.flatten [wM mm (tt 0) (ee 0) ff (aa 0) mm_seen mm_sights mm_rows zz, wT G tt σtt, wE G ee f2 r1.2.1, wF f2 (b2 0) (d2 0), wB G b2 r1.2.2.1, wD G d2 r1.2.2.2, wF ff (bb 0) (dd 0), wB G bb r4.1, wD G dd r4.2, wA G aa r6, wZ G zz l0 l1, wL l0 l0_bodies l0_sights σl0, wL l1 l1_bodies l1_sights σl1]) H := hP
    have hD : va_D A (List.flatten [wM mm (tt 0) (ee 0) ff (aa 0) mm_seen mm_sights mm_rows zz, wT G tt σtt, wE G ee f2 r1.2.1, wF f2 (b2 0) (d2 0), wB G b2 r1.2.2.1, wD G d2 r1.2.2.2, wF ff (bb 0) (dd 0), wB G bb r4.1, wD G dd r4.2, wA G aa r6, wZ G zz l0 l1, wL l0 l0_bodies l0_sights σl0, wL l1 l1_bodies l1_sights σl1]) := hD
    refine lv_iconst (v := 0) hx hb dX10_place_40 li_0 ?_
    refine lv_istore_n (lv' := [(1, .int (0 : Int32)), (0, .ref mm)]) hx hb dX10_place_41 rfl hl (Nat.le_of_ble_eq_true rfl) rfl (fun ls hl => ?_)
    obtain ⟨z15, hz16, h⟩ := bd_ex h
    refine kX10_place_42 K F mm tt ee f2 b2 d2 ff bb dd aa zz l0 l1 mm_seen mm_sights mm_rows l0_bodies l0_sights l1_bodies l1_sights σtt r1.2.1 r1.2.2.1 r1.2.2.2 r4.1 r4.2 r6 (fun H locs ls hP hD hS hl => ?_) F (0 : Int32) σl0 σl1 _ _ _ hP hD hS (lv_sub hl [1, 0] rfl) hz16
    refine lv_aload_n hx hb dX10_place_63 rfl (lv_at hl 0 rfl) ?_
    refine va_get (D := G.1) (cl := vwCl) (tys := tysG G) (ci := 10) (v := .ref ff) (C := RX10) (T := TX10) (N := 8) hx hb hts iX10 hown hG.1 hP 0 rfl rfl 2 (Nat.le_of_ble_eq_true rfl) (hts _ tw_2_43) (fun _ h9 => h9) rfl dX10_place_64 ?_
    refine va_get (D := G.1) (cl := vwCl) (tys := tysG G) (ci := 2) (v := .ref (bb 0)) (C := RX2) (T := TX2) (N := 2) hx hb hts iX2 hown hG.1 hP 21 rfl rfl 0 (Nat.le_of_ble_eq_true rfl) (hts _ tw_1_125) (fun _ h9 => h9) rfl dX10_place_67 ?_
    refine va_get (D := G.1) (cl := vwCl) (tys := tysG G) (ci := 1) (v := .int (r4.1.1 3)) (C := RX1) (T := TX1) (N := 4) hx hb hts iX1 hown hG.1 hP 22 rfl rfl 3 (Nat.le_of_ble_eq_true rfl) (hts _ tw_1_77) (fun _ h9 => h9) rfl dX10_place_70 ?_
    cases h
    exact rt_i K hP hD hS dX10_place_73
  · have h := if_f c3 h
    refine lv_bipush (v := -3) hx hb dX10_place_16 lb_m3 ?_
    cases h
    exact rt_i K hP hD hS dX10_place_18
def fX10_body (F : Nat) (σbb : ST) (x1 : Int32) (x2 : Int32) : Option (Int32) :=
  (fX1_has F σbb x1).bind fun r1 =>
  if r1 = 0 then
    some (-1 : Int32)
  else
    if x2 = 0 then
      if x1 < 0 ∨ 8 ≤ x1.toNatClampNeg then none else
      some (σbb.2.1 0 x1.toNatClampNeg)
    else
    if x2 = 1 then
      if x1 < 0 ∨ 8 ≤ x1.toNatClampNeg then none else
      some (σbb.2.1 1 x1.toNatClampNeg)
    else
    if x2 = 2 then
      if x1 < 0 ∨ 8 ≤ x1.toNatClampNeg then none else
      some (σbb.2.1 2 x1.toNatClampNeg)
    else
    if x2 = 3 then
      (fX1_height F σbb x1).bind fun r11 =>
      some r11
    else
    if x2 = 4 then
      (fX1_heads F σbb x1).bind fun r14 =>
      some r14
    else
      some (-2 : Int32)
theorem cdX10_body : CallD yX10_body 2 := by decide +kernel
set_option maxHeartbeats 4000000 in
set_option maxRecDepth 100000 in
theorem mX10_body (l : Launch) (G : GP) (F : Nat) (mm : Nat) (ff : Nat) (bb : Nat → Nat) (mm_text : Nat) (mm_reader : Nat) (mm_acts : Nat) (mm_seen : Nat) (mm_sights : Nat) (mm_rows : Nat) (mm_slots : Nat) (ff_ground : Nat) (σbb : ST) (x1 : Int32) (x2 : Int32) {r : Int32} (h : fX10_body F σbb x1 x2 = some r) : CC l G yX10_body cX10_body 4 (some .int) 3 [.ref mm, .int x1, .int x2] (List.flatten [wM mm mm_text mm_reader ff mm_acts mm_seen mm_sights mm_rows mm_slots, wF ff (bb 0) ff_ground, wB G bb σbb]) (List.flatten [wM mm mm_text mm_reader ff mm_acts mm_seen mm_sights mm_rows mm_slots, wF ff (bb 0) ff_ground, wB G bb σbb]) (some (.int r)) := by
  refine CC.of (by decide) (Nat.le_of_ble_eq_true rfl) ?_
  intro p e s m below meth c A K hP hD hS ls hl
  obtain ⟨hx, hb, hr, hml, hts, hown, hlocks, hA, hG⟩ := id K
  have hl : lv_has ls 4 [(0, .ref mm), (1, .int x1), (2, .int x2)] := hl
  unfold fX10_body at h
  refine lv_aload_n hx hb dX10_body_0 rfl (lv_at hl 0 rfl) ?_
  refine va_get (D := G.1) (cl := vwCl) (tys := tysG G) (ci := 10) (v := .ref ff) (C := RX10) (T := TX10) (N := 8) hx hb hts iX10 hown hG.1 hP 0 rfl rfl 2 (Nat.le_of_ble_eq_true rfl) (hts _ tw_2_43) (fun _ h9 => h9) rfl dX10_body_1 ?_
  refine va_get (D := G.1) (cl := vwCl) (tys := tysG G) (ci := 2) (v := .ref (bb 0)) (C := RX2) (T := TX2) (N := 2) hx hb hts iX2 hown hG.1 hP 1 rfl rfl 0 (Nat.le_of_ble_eq_true rfl) (hts _ tw_1_125) (fun _ h9 => h9) rfl dX10_body_4 ?_
  refine lv_astore_n (lv' := [(3, .ref (bb 0)), (0, .ref mm), (1, .int x1), (2, .int x2)]) hx hb dX10_body_7 rfl hl (Nat.le_of_ble_eq_true rfl) rfl (fun ls hl => ?_)
  refine lv_aload_n hx hb dX10_body_8 rfl (lv_at hl 0 rfl) ?_
  refine lv_iload_n hx hb dX10_body_9 rfl (lv_at hl 2 rfl) ?_
  obtain ⟨r1, hc2, h⟩ := bd_ex h
  refine sl_V (q0 := 2) (ci := 1) (C := RX1) K (mX1_has l G F bb σbb x1 hc2) tw_3_50 tw_1_5 tw_3_48 tw_3_49 tw_3_47 cdX1_has ⟨Nat.le_of_ble_eq_true rfl, Nat.le_of_ble_eq_true rfl⟩ hP hD hS [2] rfl rfl rfl rfl rfl rfl rfl hl.1 (Nat.le_of_ble_eq_true rfl) ⟨Nat.zero_le _, Nat.zero_le _⟩ dX10_body_10 (fun H locs hP hD hS => ?_)
  have hP : va_P G.1 vwCl (List.flatten [wM mm mm_text mm_reader ff mm_acts mm_seen mm_sights mm_rows mm_slots, wF ff (bb 0) ff_ground, wB G bb σbb]) H := hP
  have hD : va_D A (List.flatten [wM mm mm_text mm_reader ff mm_acts mm_seen mm_sights mm_rows mm_slots, wF ff (bb 0) ff_ground, wB G bb σbb]) := hD
  refine lv_if_ne (tgt := 18) hx hb dX10_body_13 (by decide) (fun c3 => ?_) (fun c3 => ?_)
  · have h := if_f c3 h
    refine lv_iload_n hx hb dX10_body_18 rfl (lv_at hl 3 rfl) ?_
    by_cases c4 : x2 = 0
    · have h := if_t c4 h
      refine lv_tableIn (off := 33) (tgt := 52) hx hb dX10_body_19 (by rw [c4]; decide) (by rw [c4]; decide) (by rw [c4] <;> rfl) (by decide) ?_
      refine lv_aload_n hx hb dX10_body_52 rfl (lv_at hl 0 rfl) ?_
      refine va_get (D := G.1) (cl := vwCl) (tys := tysG G) (ci := 1) (v := .ref (bb 1)) (C := RX1) (T := TX1) (N := 4) hx hb hts iX1 hown hG.1 hP 2 rfl rfl 0 (Nat.le_of_ble_eq_true rfl) (hts _ tw_1_65) (fun _ h9 => h9) rfl dX10_body_53 ?_
      refine lv_iload_n hx hb dX10_body_56 rfl (lv_at hl 2 rfl) ?_
      obtain ⟨ck5, h⟩ := ck h
      refine va_iald hx hb hG.1 hP 3 0 rfl rfl ck5 dX10_body_57 ?_
      cases h
      exact rt_i K hP hD hS dX10_body_58
    have h := if_f c4 h
    by_cases c6 : x2 = 1
    · have h := if_t c6 h
      refine lv_tableIn (off := 40) (tgt := 59) hx hb dX10_body_19 (by rw [c6]; decide) (by rw [c6]; decide) (by rw [c6] <;> rfl) (by decide) ?_
      refine lv_aload_n hx hb dX10_body_59 rfl (lv_at hl 0 rfl) ?_
      refine va_get (D := G.1) (cl := vwCl) (tys := tysG G) (ci := 1) (v := .ref (bb 2)) (C := RX1) (T := TX1) (N := 4) hx hb hts iX1 hown hG.1 hP 2 rfl rfl 1 (Nat.le_of_ble_eq_true rfl) (hts _ tw_1_69) (fun _ h9 => h9) rfl dX10_body_60 ?_
      refine lv_iload_n hx hb dX10_body_63 rfl (lv_at hl 2 rfl) ?_
      obtain ⟨ck7, h⟩ := ck h
      refine va_iald hx hb hG.1 hP 4 0 rfl rfl ck7 dX10_body_64 ?_
      cases h
      exact rt_i K hP hD hS dX10_body_65
    have h := if_f c6 h
    by_cases c8 : x2 = 2
    · have h := if_t c8 h
      refine lv_tableIn (off := 47) (tgt := 66) hx hb dX10_body_19 (by rw [c8]; decide) (by rw [c8]; decide) (by rw [c8] <;> rfl) (by decide) ?_
      refine lv_aload_n hx hb dX10_body_66 rfl (lv_at hl 0 rfl) ?_
      refine va_get (D := G.1) (cl := vwCl) (tys := tysG G) (ci := 1) (v := .ref (bb 3)) (C := RX1) (T := TX1) (N := 4) hx hb hts iX1 hown hG.1 hP 2 rfl rfl 2 (Nat.le_of_ble_eq_true rfl) (hts _ tw_1_73) (fun _ h9 => h9) rfl dX10_body_67 ?_
      refine lv_iload_n hx hb dX10_body_70 rfl (lv_at hl 2 rfl) ?_
      obtain ⟨ck9, h⟩ := ck h
      refine va_iald hx hb hG.1 hP 5 0 rfl rfl ck9 dX10_body_71 ?_
      cases h
      exact rt_i K hP hD hS dX10_body_72
    have h := if_f c8 h
    by_cases c10 : x2 = 3
    · have h := if_t c10 h
      refine lv_tableIn (off := 54) (tgt := 73) hx hb dX10_body_19 (by rw [c10]; decide) (by rw [c10]; decide) (by rw [c10] <;> rfl) (by decide) ?_
      refine lv_aload_n hx hb dX10_body_73 rfl (lv_at hl 0 rfl) ?_
      refine lv_iload_n hx hb dX10_body_74 rfl (lv_at hl 2 rfl) ?_
      obtain ⟨r11, hc12, h⟩ := bd_ex h
      refine sl_V (q0 := 2) (ci := 1) (C := RX1) K (mX1_height l G F bb σbb x1 hc12) tw_3_54 tw_1_5 tw_3_52 tw_3_53 tw_3_51 cdX1_height ⟨Nat.le_of_ble_eq_true rfl, Nat.le_of_ble_eq_true rfl⟩ hP hD hS [2] rfl rfl rfl rfl rfl rfl rfl hl.1 (Nat.le_of_ble_eq_true rfl) ⟨Nat.zero_le _, Nat.zero_le _⟩ dX10_body_75 (fun H locs hP hD hS => ?_)
      have hP : va_P G.1 vwCl (List.flatten [wM mm mm_text mm_reader ff mm_acts mm_seen mm_sights mm_rows mm_slots, wF ff (bb 0) ff_ground, wB G bb σbb]) H := hP
      have hD : va_D A (List.flatten [wM mm mm_text mm_reader ff mm_acts mm_seen mm_sights mm_rows mm_slots, wF ff (bb 0) ff_ground, wB G bb σbb]) := hD
      cases h
      exact rt_i K hP hD hS dX10_body_78
    have h := if_f c10 h
    by_cases c13 : x2 = 4
    · have h := if_t c13 h
      refine lv_tableIn (off := 60) (tgt := 79) hx hb dX10_body_19 (by rw [c13]; decide) (by rw [c13]; decide) (by rw [c13] <;> rfl) (by decide) ?_
      refine lv_aload_n hx hb dX10_body_79 rfl (lv_at hl 0 rfl) ?_
      refine lv_iload_n hx hb dX10_body_80 rfl (lv_at hl 2 rfl) ?_
      obtain ⟨r14, hc15, h⟩ := bd_ex h
      refine sl_V (q0 := 2) (ci := 1) (C := RX1) K (mX1_heads l G F bb σbb x1 hc15) tw_3_60 tw_1_5 tw_3_58 tw_3_59 tw_3_57 cdX1_heads ⟨Nat.le_of_ble_eq_true rfl, Nat.le_of_ble_eq_true rfl⟩ hP hD hS [2] rfl rfl rfl rfl rfl rfl rfl hl.1 (Nat.le_of_ble_eq_true rfl) ⟨Nat.zero_le _, Nat.zero_le _⟩ dX10_body_81 (fun H locs hP hD hS => ?_)
      have hP : va_P G.1 vwCl (List.flatten [wM mm mm_text mm_reader ff mm_acts mm_seen mm_sights mm_rows mm_slots, wF ff (bb 0) ff_ground, wB G bb σbb]) H := hP
      have hD : va_D A (List.flatten [wM mm mm_text mm_reader ff mm_acts mm_seen mm_sights mm_rows mm_slots, wF ff (bb 0) ff_ground, wB G bb σbb]) := hD
      cases h
      exact rt_i K hP hD hS dX10_body_84
    have h := if_f c13 h
    refine lv_tableOut (tgt := 85) hx hb dX10_body_19 (by have n0 := lv_neT c4 (a := 0) rfl; have n1 := lv_neT c6 (a := 1) rfl; have n2 := lv_neT c8 (a := 2) rfl; have n3 := lv_neT c10 (a := 3) rfl; have n4 := lv_neT c13 (a := 4) rfl; omega) (by decide) ?_
    refine lv_bipush (v := -2) hx hb dX10_body_85 lb_m2 ?_
    cases h
    exact rt_i K hP hD hS dX10_body_87
  · have h := if_t c3 h
    refine lv_iconst (v := -1) hx hb dX10_body_16 li_m1 ?_
    cases h
    exact rt_i K hP hD hS dX10_body_17
def fX10_hill (F : Nat) (σdd : ST) (x1 : Int32) (x2 : Int32) : Option (Int32) :=
  (fX4_hasHill F σdd x1).bind fun r1 =>
  if r1 = 0 then
    some (-1 : Int32)
  else
    (fX10_isBelow F x2 (4 : Int32)).bind fun r4 =>
    if r4 = 0 then
      some (-2 : Int32)
    else
      if x1 = 0 then
        if x2 < 0 ∨ 4 ≤ x2.toNatClampNeg then none else
        some (σdd.2.1 10 x2.toNatClampNeg)
      else
      if x1 = 1 then
        if x2 < 0 ∨ 4 ≤ x2.toNatClampNeg then none else
        some (σdd.2.1 11 x2.toNatClampNeg)
      else
      if x1 = 2 then
        if x2 < 0 ∨ 4 ≤ x2.toNatClampNeg then none else
        some (σdd.2.1 12 x2.toNatClampNeg)
      else
        none
theorem cdX10_hill : CallD yX10_hill 2 := by decide +kernel
set_option maxHeartbeats 4000000 in
set_option maxRecDepth 100000 in
theorem mX10_hill (l : Launch) (G : GP) (F : Nat) (mm : Nat) (ff : Nat) (dd : Nat → Nat) (mm_text : Nat) (mm_reader : Nat) (mm_acts : Nat) (mm_seen : Nat) (mm_sights : Nat) (mm_rows : Nat) (mm_slots : Nat) (ff_bodies : Nat) (σdd : ST) (x1 : Int32) (x2 : Int32) {r : Int32} (h : fX10_hill F σdd x1 x2 = some r) : CC l G yX10_hill cX10_hill 3 (some .int) 3 [.ref mm, .int x1, .int x2] (List.flatten [wM mm mm_text mm_reader ff mm_acts mm_seen mm_sights mm_rows mm_slots, wF ff ff_bodies (dd 0), wD G dd σdd]) (List.flatten [wM mm mm_text mm_reader ff mm_acts mm_seen mm_sights mm_rows mm_slots, wF ff ff_bodies (dd 0), wD G dd σdd]) (some (.int r)) := by
  refine CC.of (by decide) (Nat.le_of_ble_eq_true rfl) ?_
  intro p e s m below meth c A K hP hD hS ls hl
  obtain ⟨hx, hb, hr, hml, hts, hown, hlocks, hA, hG⟩ := id K
  have hl : lv_has ls 3 [(0, .ref mm), (1, .int x1), (2, .int x2)] := hl
  unfold fX10_hill at h
  refine lv_aload_n hx hb dX10_hill_0 rfl (lv_at hl 0 rfl) ?_
  refine va_get (D := G.1) (cl := vwCl) (tys := tysG G) (ci := 10) (v := .ref ff) (C := RX10) (T := TX10) (N := 8) hx hb hts iX10 hown hG.1 hP 0 rfl rfl 2 (Nat.le_of_ble_eq_true rfl) (hts _ tw_2_43) (fun _ h9 => h9) rfl dX10_hill_1 ?_
  refine va_get (D := G.1) (cl := vwCl) (tys := tysG G) (ci := 2) (v := .ref (dd 0)) (C := RX2) (T := TX2) (N := 2) hx hb hts iX2 hown hG.1 hP 1 rfl rfl 1 (Nat.le_of_ble_eq_true rfl) (hts _ tw_1_129) (fun _ h9 => h9) rfl dX10_hill_4 ?_
  refine lv_iload_n hx hb dX10_hill_7 rfl (lv_at hl 1 rfl) ?_
  obtain ⟨r1, hc2, h⟩ := bd_ex h
  refine sl_V (q0 := 2) (ci := 4) (C := RX4) K (mX4_hasHill l G F dd σdd x1 hc2) tw_3_70 tw_1_6 tw_3_68 tw_3_69 tw_3_67 cdX4_hasHill ⟨Nat.le_of_ble_eq_true rfl, Nat.le_of_ble_eq_true rfl⟩ hP hD hS [2] rfl rfl rfl rfl rfl rfl rfl hl.1 (Nat.le_of_ble_eq_true rfl) ⟨Nat.zero_le _, Nat.zero_le _⟩ dX10_hill_8 (fun H locs hP hD hS => ?_)
  have hP : va_P G.1 vwCl (List.flatten [wM mm mm_text mm_reader ff mm_acts mm_seen mm_sights mm_rows mm_slots, wF ff ff_bodies (dd 0), wD G dd σdd]) H := hP
  have hD : va_D A (List.flatten [wM mm mm_text mm_reader ff mm_acts mm_seen mm_sights mm_rows mm_slots, wF ff ff_bodies (dd 0), wD G dd σdd]) := hD
  refine lv_if_ne (tgt := 16) hx hb dX10_hill_11 (by decide) (fun c3 => ?_) (fun c3 => ?_)
  · have h := if_f c3 h
    refine lv_iload_n hx hb dX10_hill_16 rfl (lv_at hl 2 rfl) ?_
    refine lv_iconst (v := 4) hx hb dX10_hill_17 li_4 ?_
    obtain ⟨r4, hc5, h⟩ := bd_ex h
    refine sl_S K (mX10_isBelow l G F x2 (4 : Int32) hc5) tw_2_194 tw_1_1 tw_2_193 tw_2_222 cdX10_isBelow ⟨Nat.le_of_ble_eq_true rfl, Nat.le_of_ble_eq_true rfl⟩ hP hD hS [] rfl rfl rfl rfl hl.1 (Nat.le_of_ble_eq_true rfl) ⟨Nat.zero_le _, Nat.zero_le _⟩ dX10_hill_18 (fun H locs hP hD hS => ?_)
    have hP : va_P G.1 vwCl (List.flatten [wM mm mm_text mm_reader ff mm_acts mm_seen mm_sights mm_rows mm_slots, wF ff ff_bodies (dd 0), wD G dd σdd]) H := hP
    have hD : va_D A (List.flatten [wM mm mm_text mm_reader ff mm_acts mm_seen mm_sights mm_rows mm_slots, wF ff ff_bodies (dd 0), wD G dd σdd]) := hD
    refine lv_if_eq (tgt := 41) hx hb dX10_hill_21 (by decide) (fun c6 => ?_) (fun c6 => ?_)
    · have h := if_t c6 h
      refine lv_bipush (v := -2) hx hb dX10_hill_41 lb_m2 ?_
      cases h
      exact rt_i K hP hD hS dX10_hill_43
    · have h := if_f c6 h
      refine lv_aload_n hx hb dX10_hill_24 rfl (lv_at hl 0 rfl) ?_
      refine va_get (D := G.1) (cl := vwCl) (tys := tysG G) (ci := 10) (v := .ref ff) (C := RX10) (T := TX10) (N := 8) hx hb hts iX10 hown hG.1 hP 0 rfl rfl 2 (Nat.le_of_ble_eq_true rfl) (hts _ tw_2_43) (fun _ h9 => h9) rfl dX10_hill_25 ?_
      refine va_get (D := G.1) (cl := vwCl) (tys := tysG G) (ci := 2) (v := .ref (dd 0)) (C := RX2) (T := TX2) (N := 2) hx hb hts iX2 hown hG.1 hP 1 rfl rfl 1 (Nat.le_of_ble_eq_true rfl) (hts _ tw_1_129) (fun _ h9 => h9) rfl dX10_hill_28 ?_
      refine va_get (D := G.1) (cl := vwCl) (tys := tysG G) (ci := 4) (v := .ref (dd 1)) (C := RX4) (T := TX4) (N := 6) hx hb hts iX4 hown hG.1 hP 2 rfl rfl 0 (Nat.le_of_ble_eq_true rfl) (hts _ tw_1_97) (fun _ h9 => h9) rfl dX10_hill_31 ?_
      refine lv_iload_n hx hb dX10_hill_34 rfl (lv_at hl 1 rfl) ?_
      by_cases c7 : x1 = 0
      · have h := if_t c7 h
        refine my_aald hx hb hG.1 hP 3 4 rfl rfl (b := dd 10) rfl (by rw [c7]; exact vpi (by decide)) (by rw [c7]; rfl) dX10_hill_35 ?_
        refine lv_iload_n hx hb dX10_hill_36 rfl (lv_at hl 2 rfl) ?_
        obtain ⟨ck8, h⟩ := ck h
        refine va_iald hx hb hG.1 hP 4 0 rfl rfl ck8 dX10_hill_37 ?_
        refine lv_goto (tgt := 43) hx hb dX10_hill_38 (by decide) ?_
        cases h
        exact rt_i K hP hD hS dX10_hill_43
      have h := if_f c7 h
      by_cases c9 : x1 = 1
      · have h := if_t c9 h
        refine my_aald hx hb hG.1 hP 3 4 rfl rfl (b := dd 11) rfl (by rw [c9]; exact vpi (by decide)) (by rw [c9]; rfl) dX10_hill_35 ?_
        refine lv_iload_n hx hb dX10_hill_36 rfl (lv_at hl 2 rfl) ?_
        obtain ⟨ck10, h⟩ := ck h
        refine va_iald hx hb hG.1 hP 5 0 rfl rfl ck10 dX10_hill_37 ?_
        refine lv_goto (tgt := 43) hx hb dX10_hill_38 (by decide) ?_
        cases h
        exact rt_i K hP hD hS dX10_hill_43
      have h := if_f c9 h
      by_cases c11 : x1 = 2
      · have h := if_t c11 h
        refine my_aald hx hb hG.1 hP 3 4 rfl rfl (b := dd 12) rfl (by rw [c11]; exact vpi (by decide)) (by rw [c11]; rfl) dX10_hill_35 ?_
        refine lv_iload_n hx hb dX10_hill_36 rfl (lv_at hl 2 rfl) ?_
        obtain ⟨ck12, h⟩ := ck h
        refine va_iald hx hb hG.1 hP 6 0 rfl rfl ck12 dX10_hill_37 ?_
        refine lv_goto (tgt := 43) hx hb dX10_hill_38 (by decide) ?_
        cases h
        exact rt_i K hP hD hS dX10_hill_43
      have h := if_f c11 h
      cases h
  · have h := if_t c3 h
    refine lv_iconst (v := -1) hx hb dX10_hill_14 li_m1 ?_
    cases h
    exact rt_i K hP hD hS dX10_hill_15
def fX10_put (F : Nat) (σbb : ST) (σaa : ST) (x1 : Int32) (x2 : Int32) (x3 : Int32) : Option (Int32 × ST × ST) :=
  (fX10_isBelow F x1 (6 : Int32)).bind fun r1 =>
  if r1 = 0 then
    some ((-2 : Int32), σbb, σaa)
  else
    (fX10_isCell F x2 x3).bind fun r4 =>
    if r4 = 0 then
      some ((-2 : Int32), σbb, σaa)
    else
      (fX1_standsAt F σbb x2 x3).bind fun r7 =>
      if r7 = 0 then
        if (σbb.1 3) < (8 : Int32) then
          (fX1_insert F σbb (σbb.1 3) x1 x2 x3).bind fun r11 =>
          (fX0_remember F σaa r11 (0 : Int32) (σbb.1 3)).bind fun r13 =>
          some (σbb.1 3, r11, r13)
        else
          some ((-4 : Int32), σbb, σaa)
      else
        some ((-3 : Int32), σbb, σaa)
theorem cdX10_put : CallD yX10_put 3 := by decide +kernel
set_option maxHeartbeats 4000000 in
set_option maxRecDepth 100000 in
theorem mX10_put (l : Launch) (G : GP) (F : Nat) (mm : Nat) (ff : Nat) (bb : Nat → Nat) (aa : Nat → Nat) (mm_text : Nat) (mm_reader : Nat) (mm_seen : Nat) (mm_sights : Nat) (mm_rows : Nat) (mm_slots : Nat) (ff_ground : Nat) (σbb : ST) (σaa : ST) (x1 : Int32) (x2 : Int32) (x3 : Int32) {r : Int32 × ST × ST} (h : fX10_put F σbb σaa x1 x2 x3 = some r) : CC l G yX10_put cX10_put 6 (some .int) 4 [.ref mm, .int x1, .int x2, .int x3] (List.flatten [wM mm mm_text mm_reader ff (aa 0) mm_seen mm_sights mm_rows mm_slots, wF ff (bb 0) ff_ground, wB G bb σbb, wA G aa σaa]) (List.flatten [wM mm mm_text mm_reader ff (aa 0) mm_seen mm_sights mm_rows mm_slots, wF ff (bb 0) ff_ground, wB G bb r.2.1, wA G aa r.2.2]) (some (.int r.1)) := by
  refine CC.of (by decide) (Nat.le_of_ble_eq_true rfl) ?_
  intro p e s m below meth c A K hP hD hS ls hl
  obtain ⟨hx, hb, hr, hml, hts, hown, hlocks, hA, hG⟩ := id K
  have hl : lv_has ls 6 [(0, .ref mm), (1, .int x1), (2, .int x2), (3, .int x3)] := hl
  unfold fX10_put at h
  refine lv_aload_n hx hb dX10_put_0 rfl (lv_at hl 0 rfl) ?_
  refine va_get (D := G.1) (cl := vwCl) (tys := tysG G) (ci := 10) (v := .ref ff) (C := RX10) (T := TX10) (N := 8) hx hb hts iX10 hown hG.1 hP 0 rfl rfl 2 (Nat.le_of_ble_eq_true rfl) (hts _ tw_2_43) (fun _ h9 => h9) rfl dX10_put_1 ?_
  refine va_get (D := G.1) (cl := vwCl) (tys := tysG G) (ci := 2) (v := .ref (bb 0)) (C := RX2) (T := TX2) (N := 2) hx hb hts iX2 hown hG.1 hP 1 rfl rfl 0 (Nat.le_of_ble_eq_true rfl) (hts _ tw_1_125) (fun _ h9 => h9) rfl dX10_put_4 ?_
  refine lv_astore (lv' := [(4, .ref (bb 0)), (0, .ref mm), (1, .int x1), (2, .int x2), (3, .int x3)]) hx hb dX10_put_7 hl (Nat.le_of_ble_eq_true rfl) rfl (fun ls hl => ?_)
  refine lv_iload_n hx hb dX10_put_9 rfl (lv_at hl 2 rfl) ?_
  refine lv_bipush (v := 6) hx hb dX10_put_10 lb_6 ?_
  obtain ⟨r1, hc2, h⟩ := bd_ex h
  refine sl_S K (mX10_isBelow l G F x1 (6 : Int32) hc2) tw_2_194 tw_1_1 tw_2_193 tw_2_222 cdX10_isBelow ⟨Nat.le_of_ble_eq_true rfl, Nat.le_of_ble_eq_true rfl⟩ hP hD hS [] rfl rfl rfl rfl hl.1 (Nat.le_of_ble_eq_true rfl) ⟨Nat.zero_le _, Nat.zero_le _⟩ dX10_put_12 (fun H locs hP hD hS => ?_)
  have hP : va_P G.1 vwCl (List.flatten [wM mm mm_text mm_reader ff (aa 0) mm_seen mm_sights mm_rows mm_slots, wF ff (bb 0) ff_ground, wB G bb σbb, wA G aa σaa]) H := hP
  have hD : va_D A (List.flatten [wM mm mm_text mm_reader ff (aa 0) mm_seen mm_sights mm_rows mm_slots, wF ff (bb 0) ff_ground, wB G bb σbb, wA G aa σaa]) := hD
  refine lv_if_eq (tgt := 26) hx hb dX10_put_15 (by decide) (fun c3 => ?_) (fun c3 => ?_)
  · have h := if_t c3 h
    refine lv_bipush (v := -2) hx hb dX10_put_26 lb_m2 ?_
    cases h
    exact rt_i K hP hD hS dX10_put_28
  · have h := if_f c3 h
    refine lv_iload_n hx hb dX10_put_18 rfl (lv_at hl 3 rfl) ?_
    refine lv_iload_n hx hb dX10_put_19 rfl (lv_at hl 4 rfl) ?_
    obtain ⟨r4, hc5, h⟩ := bd_ex h
    refine sl_S K (mX10_isCell l G F x2 x3 hc5) tw_3_77 tw_1_1 tw_3_76 tw_3_75 cdX10_isCell ⟨Nat.le_of_ble_eq_true rfl, Nat.le_of_ble_eq_true rfl⟩ hP hD hS [] rfl rfl rfl rfl hl.1 (Nat.le_of_ble_eq_true rfl) ⟨Nat.zero_le _, Nat.zero_le _⟩ dX10_put_20 (fun H locs hP hD hS => ?_)
    have hP : va_P G.1 vwCl (List.flatten [wM mm mm_text mm_reader ff (aa 0) mm_seen mm_sights mm_rows mm_slots, wF ff (bb 0) ff_ground, wB G bb σbb, wA G aa σaa]) H := hP
    have hD : va_D A (List.flatten [wM mm mm_text mm_reader ff (aa 0) mm_seen mm_sights mm_rows mm_slots, wF ff (bb 0) ff_ground, wB G bb σbb, wA G aa σaa]) := hD
    refine lv_if_ne (tgt := 29) hx hb dX10_put_23 (by decide) (fun c6 => ?_) (fun c6 => ?_)
    · have h := if_f c6 h
      refine lv_aload hx hb dX10_put_29 (lv_at hl 0 rfl) ?_
      refine lv_iload_n hx hb dX10_put_31 rfl (lv_at hl 3 rfl) ?_
      refine lv_iload_n hx hb dX10_put_32 rfl (lv_at hl 4 rfl) ?_
      obtain ⟨r7, hc8, h⟩ := bd_ex h
      refine sl_V (q0 := 2) (ci := 1) (C := RX1) K (mX1_standsAt l G F bb σbb x2 x3 hc8) tw_2_210 tw_1_5 tw_2_208 tw_2_209 tw_3_78 cdX1_standsAt ⟨Nat.le_of_ble_eq_true rfl, Nat.le_of_ble_eq_true rfl⟩ hP hD hS [2] rfl rfl rfl rfl rfl rfl rfl hl.1 (Nat.le_of_ble_eq_true rfl) ⟨Nat.zero_le _, Nat.zero_le _⟩ dX10_put_33 (fun H locs hP hD hS => ?_)
      have hP : va_P G.1 vwCl (List.flatten [wM mm mm_text mm_reader ff (aa 0) mm_seen mm_sights mm_rows mm_slots, wF ff (bb 0) ff_ground, wB G bb σbb, wA G aa σaa]) H := hP
      have hD : va_D A (List.flatten [wM mm mm_text mm_reader ff (aa 0) mm_seen mm_sights mm_rows mm_slots, wF ff (bb 0) ff_ground, wB G bb σbb, wA G aa σaa]) := hD
      refine lv_if_eq (tgt := 42) hx hb dX10_put_36 (by decide) (fun c9 => ?_) (fun c9 => ?_)
      · have h := if_t c9 h
        refine lv_aload hx hb dX10_put_42 (lv_at hl 0 rfl) ?_
        refine va_get (D := G.1) (cl := vwCl) (tys := tysG G) (ci := 1) (v := .int (σbb.1 3)) (C := RX1) (T := TX1) (N := 4) hx hb hts iX1 hown hG.1 hP 2 rfl rfl 3 (Nat.le_of_ble_eq_true rfl) (hts _ tw_1_77) (fun _ h9 => h9) rfl dX10_put_44 ?_
        refine lv_bipush (v := 8) hx hb dX10_put_47 lb_8 ?_
        refine lv_icmp_lt (tgt := 55) hx hb dX10_put_49 (by decide) (fun c10 => ?_) (fun c10 => ?_)
        · have h := if_t c10 h
          refine lv_aload hx hb dX10_put_55 (lv_at hl 0 rfl) ?_
          refine va_get (D := G.1) (cl := vwCl) (tys := tysG G) (ci := 1) (v := .int (σbb.1 3)) (C := RX1) (T := TX1) (N := 4) hx hb hts iX1 hown hG.1 hP 2 rfl rfl 3 (Nat.le_of_ble_eq_true rfl) (hts _ tw_1_77) (fun _ h9 => h9) rfl dX10_put_57 ?_
          refine lv_istore (lv' := [(5, .int (σbb.1 3)), (4, .ref (bb 0)), (0, .ref mm), (1, .int x1), (2, .int x2), (3, .int x3)]) hx hb dX10_put_60 hl (Nat.le_of_ble_eq_true rfl) rfl (fun ls hl => ?_)
          refine lv_aload hx hb dX10_put_62 (lv_at hl 1 rfl) ?_
          refine lv_iload hx hb dX10_put_64 (lv_at hl 0 rfl) ?_
          refine lv_iload_n hx hb dX10_put_66 rfl (lv_at hl 3 rfl) ?_
          refine lv_iload_n hx hb dX10_put_67 rfl (lv_at hl 4 rfl) ?_
          refine lv_iload_n hx hb dX10_put_68 rfl (lv_at hl 5 rfl) ?_
          obtain ⟨r11, hc12, h⟩ := bd_ex h
          refine sl_V (q0 := 2) (ci := 1) (C := RX1) K (mX1_insert l G F bb σbb (σbb.1 3) x1 x2 x3 hc12) tw_2_238 tw_1_5 tw_2_236 tw_2_237 tw_3_79 cdX1_insert ⟨Nat.le_of_ble_eq_true rfl, Nat.le_of_ble_eq_true rfl⟩ hP hD hS [2] rfl rfl rfl rfl rfl rfl rfl hl.1 (Nat.le_of_ble_eq_true rfl) ⟨Nat.zero_le _, Nat.zero_le _⟩ dX10_put_69 (fun H locs hP hD hS => ?_)
          have hP : va_P G.1 vwCl (List.flatten [wM mm mm_text mm_reader ff (aa 0) mm_seen mm_sights mm_rows mm_slots, wF ff (bb 0) ff_ground, wB G bb r11, wA G aa σaa]) H := hP
          have hD : va_D A (List.flatten [wM mm mm_text mm_reader ff (aa 0) mm_seen mm_sights mm_rows mm_slots, wF ff (bb 0) ff_ground, wB G bb r11, wA G aa σaa]) := hD
          refine lv_aload_n hx hb dX10_put_72 rfl (lv_at hl 2 rfl) ?_
          refine va_get (D := G.1) (cl := vwCl) (tys := tysG G) (ci := 10) (v := .ref (aa 0)) (C := RX10) (T := TX10) (N := 8) hx hb hts iX10 hown hG.1 hP 0 rfl rfl 3 (Nat.le_of_ble_eq_true rfl) (hts _ tw_2_44) (fun _ h9 => h9) rfl dX10_put_73 ?_
          refine lv_iconst (v := 0) hx hb dX10_put_76 li_0 ?_
          refine lv_iload hx hb dX10_put_77 (lv_at hl 0 rfl) ?_
          refine lv_aload hx hb dX10_put_79 (lv_at hl 1 rfl) ?_
          obtain ⟨r13, hc14, h⟩ := bd_ex h
          refine sl_V (q0 := 6) (ci := 0) (C := RX0) K (mX0_remember l G F aa bb σaa r11 (0 : Int32) (σbb.1 3) hc14) tw_3_83 tw_1_7 tw_3_81 tw_3_82 tw_3_80 cdX0_remember ⟨Nat.le_of_ble_eq_true rfl, Nat.le_of_ble_eq_true rfl⟩ hP hD hS [3, 2] rfl rfl rfl rfl rfl rfl rfl hl.1 (Nat.le_of_ble_eq_true rfl) ⟨Nat.zero_le _, Nat.zero_le _⟩ dX10_put_81 (fun H locs hP hD hS => ?_)
          have hP : va_P G.1 vwCl (List.flatten [wM mm mm_text mm_reader ff (aa 0) mm_seen mm_sights mm_rows mm_slots, wF ff (bb 0) ff_ground, wB G bb r11, wA G aa r13]) H := hP
          have hD : va_D A (List.flatten [wM mm mm_text mm_reader ff (aa 0) mm_seen mm_sights mm_rows mm_slots, wF ff (bb 0) ff_ground, wB G bb r11, wA G aa r13]) := hD
          refine lv_iload hx hb dX10_put_84 (lv_at hl 0 rfl) ?_
          cases h
          exact rt_i K hP hD hS dX10_put_86
        · have h := if_f c10 h
          refine lv_bipush (v := -4) hx hb dX10_put_52 lb_m4 ?_
          cases h
          exact rt_i K hP hD hS dX10_put_54
      · have h := if_f c9 h
        refine lv_bipush (v := -3) hx hb dX10_put_39 lb_m3 ?_
        cases h
        exact rt_i K hP hD hS dX10_put_41
    · have h := if_t c6 h
      refine lv_bipush (v := -2) hx hb dX10_put_26 lb_m2 ?_
      cases h
      exact rt_i K hP hD hS dX10_put_28
def fX10_move (F : Nat) (σbb : ST) (σaa : ST) (x1 : Int32) (x2 : Int32) (x3 : Int32) : Option (Int32 × ST × ST) :=
  (fX1_has F σbb x1).bind fun r1 =>
  if r1 = 0 then
    some ((-1 : Int32), σbb, σaa)
  else
    (fX10_isCell F x2 x3).bind fun r4 =>
    if r4 = 0 then
      some ((-2 : Int32), σbb, σaa)
    else
      (fX1_standsAt F σbb x2 x3).bind fun r7 =>
      if r7 = 0 then
        if x1 < 0 ∨ 8 ≤ x1.toNatClampNeg then none else
        nm ((if 0 ≤ (x2 - (σbb.2.1 1 x1.toNatClampNeg)) then (x2 - (σbb.2.1 1 x1.toNatClampNeg)) else 0 - (x2 - (σbb.2.1 1 x1.toNatClampNeg))) + (if 0 ≤ (x3 - (σbb.2.1 2 x1.toNatClampNeg)) then (x3 - (σbb.2.1 2 x1.toNatClampNeg)) else 0 - (x3 - (σbb.2.1 2 x1.toNatClampNeg)))) fun (y11 : Int32) =>
        (fX0_remember F σaa σbb (1 : Int32) x1).bind fun r13 =>
        nm (sA σbb 1 x1.toNatClampNeg x2) fun (s15 : ST) =>
        nm (sA s15 2 x1.toNatClampNeg x3) fun (s17 : ST) =>
        some (y11, s17, r13)
      else
        some ((-3 : Int32), σbb, σaa)
theorem cdX10_move : CallD yX10_move 3 := by decide +kernel
set_option maxHeartbeats 4000000 in
set_option maxRecDepth 100000 in
theorem mX10_move (l : Launch) (G : GP) (F : Nat) (mm : Nat) (ff : Nat) (bb : Nat → Nat) (aa : Nat → Nat) (mm_text : Nat) (mm_reader : Nat) (mm_seen : Nat) (mm_sights : Nat) (mm_rows : Nat) (mm_slots : Nat) (ff_ground : Nat) (σbb : ST) (σaa : ST) (x1 : Int32) (x2 : Int32) (x3 : Int32) {r : Int32 × ST × ST} (h : fX10_move F σbb σaa x1 x2 x3 = some r) : CC l G yX10_move cX10_move 6 (some .int) 4 [.ref mm, .int x1, .int x2, .int x3] (List.flatten [wM mm mm_text mm_reader ff (aa 0) mm_seen mm_sights mm_rows mm_slots, wF ff (bb 0) ff_ground, wB G bb σbb, wA G aa σaa]) (List.flatten [wM mm mm_text mm_reader ff (aa 0) mm_seen mm_sights mm_rows mm_slots, wF ff (bb 0) ff_ground, wB G bb r.2.1, wA G aa r.2.2]) (some (.int r.1)) := by
  refine CC.of (by decide) (Nat.le_of_ble_eq_true rfl) ?_
  intro p e s m below meth c A K hP hD hS ls hl
  obtain ⟨hx, hb, hr, hml, hts, hown, hlocks, hA, hG⟩ := id K
  have hl : lv_has ls 6 [(0, .ref mm), (1, .int x1), (2, .int x2), (3, .int x3)] := hl
  unfold fX10_move at h
  refine lv_aload_n hx hb dX10_move_0 rfl (lv_at hl 0 rfl) ?_
  refine va_get (D := G.1) (cl := vwCl) (tys := tysG G) (ci := 10) (v := .ref ff) (C := RX10) (T := TX10) (N := 8) hx hb hts iX10 hown hG.1 hP 0 rfl rfl 2 (Nat.le_of_ble_eq_true rfl) (hts _ tw_2_43) (fun _ h9 => h9) rfl dX10_move_1 ?_
  refine va_get (D := G.1) (cl := vwCl) (tys := tysG G) (ci := 2) (v := .ref (bb 0)) (C := RX2) (T := TX2) (N := 2) hx hb hts iX2 hown hG.1 hP 1 rfl rfl 0 (Nat.le_of_ble_eq_true rfl) (hts _ tw_1_125) (fun _ h9 => h9) rfl dX10_move_4 ?_
  refine lv_astore (lv' := [(4, .ref (bb 0)), (0, .ref mm), (1, .int x1), (2, .int x2), (3, .int x3)]) hx hb dX10_move_7 hl (Nat.le_of_ble_eq_true rfl) rfl (fun ls hl => ?_)
  refine lv_aload hx hb dX10_move_9 (lv_at hl 0 rfl) ?_
  refine lv_iload_n hx hb dX10_move_11 rfl (lv_at hl 2 rfl) ?_
  obtain ⟨r1, hc2, h⟩ := bd_ex h
  refine sl_V (q0 := 2) (ci := 1) (C := RX1) K (mX1_has l G F bb σbb x1 hc2) tw_3_50 tw_1_5 tw_3_48 tw_3_49 tw_3_47 cdX1_has ⟨Nat.le_of_ble_eq_true rfl, Nat.le_of_ble_eq_true rfl⟩ hP hD hS [2] rfl rfl rfl rfl rfl rfl rfl hl.1 (Nat.le_of_ble_eq_true rfl) ⟨Nat.zero_le _, Nat.zero_le _⟩ dX10_move_12 (fun H locs hP hD hS => ?_)
  have hP : va_P G.1 vwCl (List.flatten [wM mm mm_text mm_reader ff (aa 0) mm_seen mm_sights mm_rows mm_slots, wF ff (bb 0) ff_ground, wB G bb σbb, wA G aa σaa]) H := hP
  have hD : va_D A (List.flatten [wM mm mm_text mm_reader ff (aa 0) mm_seen mm_sights mm_rows mm_slots, wF ff (bb 0) ff_ground, wB G bb σbb, wA G aa σaa]) := hD
  refine lv_if_ne (tgt := 20) hx hb dX10_move_15 (by decide) (fun c3 => ?_) (fun c3 => ?_)
  · have h := if_f c3 h
    refine lv_iload_n hx hb dX10_move_20 rfl (lv_at hl 3 rfl) ?_
    refine lv_iload_n hx hb dX10_move_21 rfl (lv_at hl 4 rfl) ?_
    obtain ⟨r4, hc5, h⟩ := bd_ex h
    refine sl_S K (mX10_isCell l G F x2 x3 hc5) tw_3_77 tw_1_1 tw_3_76 tw_3_75 cdX10_isCell ⟨Nat.le_of_ble_eq_true rfl, Nat.le_of_ble_eq_true rfl⟩ hP hD hS [] rfl rfl rfl rfl hl.1 (Nat.le_of_ble_eq_true rfl) ⟨Nat.zero_le _, Nat.zero_le _⟩ dX10_move_22 (fun H locs hP hD hS => ?_)
    have hP : va_P G.1 vwCl (List.flatten [wM mm mm_text mm_reader ff (aa 0) mm_seen mm_sights mm_rows mm_slots, wF ff (bb 0) ff_ground, wB G bb σbb, wA G aa σaa]) H := hP
    have hD : va_D A (List.flatten [wM mm mm_text mm_reader ff (aa 0) mm_seen mm_sights mm_rows mm_slots, wF ff (bb 0) ff_ground, wB G bb σbb, wA G aa σaa]) := hD
    refine lv_if_ne (tgt := 31) hx hb dX10_move_25 (by decide) (fun c6 => ?_) (fun c6 => ?_)
    · have h := if_f c6 h
      refine lv_aload hx hb dX10_move_31 (lv_at hl 0 rfl) ?_
      refine lv_iload_n hx hb dX10_move_33 rfl (lv_at hl 3 rfl) ?_
      refine lv_iload_n hx hb dX10_move_34 rfl (lv_at hl 4 rfl) ?_
      obtain ⟨r7, hc8, h⟩ := bd_ex h
      refine sl_V (q0 := 2) (ci := 1) (C := RX1) K (mX1_standsAt l G F bb σbb x2 x3 hc8) tw_2_210 tw_1_5 tw_2_208 tw_2_209 tw_3_78 cdX1_standsAt ⟨Nat.le_of_ble_eq_true rfl, Nat.le_of_ble_eq_true rfl⟩ hP hD hS [2] rfl rfl rfl rfl rfl rfl rfl hl.1 (Nat.le_of_ble_eq_true rfl) ⟨Nat.zero_le _, Nat.zero_le _⟩ dX10_move_35 (fun H locs hP hD hS => ?_)
      have hP : va_P G.1 vwCl (List.flatten [wM mm mm_text mm_reader ff (aa 0) mm_seen mm_sights mm_rows mm_slots, wF ff (bb 0) ff_ground, wB G bb σbb, wA G aa σaa]) H := hP
      have hD : va_D A (List.flatten [wM mm mm_text mm_reader ff (aa 0) mm_seen mm_sights mm_rows mm_slots, wF ff (bb 0) ff_ground, wB G bb σbb, wA G aa σaa]) := hD
      refine lv_if_eq (tgt := 44) hx hb dX10_move_38 (by decide) (fun c9 => ?_) (fun c9 => ?_)
      · have h := if_t c9 h
        refine lv_iload_n hx hb dX10_move_44 rfl (lv_at hl 3 rfl) ?_
        refine lv_aload hx hb dX10_move_45 (lv_at hl 0 rfl) ?_
        refine va_get (D := G.1) (cl := vwCl) (tys := tysG G) (ci := 1) (v := .ref (bb 2)) (C := RX1) (T := TX1) (N := 4) hx hb hts iX1 hown hG.1 hP 2 rfl rfl 1 (Nat.le_of_ble_eq_true rfl) (hts _ tw_1_69) (fun _ h9 => h9) rfl dX10_move_47 ?_
        refine lv_iload_n hx hb dX10_move_50 rfl (lv_at hl 2 rfl) ?_
        obtain ⟨ck10, h⟩ := ck h
        refine va_iald hx hb hG.1 hP 4 0 rfl rfl ck10 dX10_move_51 ?_
        refine lv_isub hx hb dX10_move_52 ?_
        refine va_mabs hx hb (hml.trans hl.1.symm) hown (hts _ tw_3_89) (hts _ tw_3_90) (hts _ tw_1_15) (hts _ tw_3_91) (Nat.le_of_ble_eq_true rfl) (Nat.le_of_ble_eq_true rfl) (Nat.zero_le _) (Nat.zero_le _) dX10_move_53 ?_
        refine lv_iload_n hx hb dX10_move_56 rfl (lv_at hl 4 rfl) ?_
        refine lv_aload hx hb dX10_move_57 (lv_at hl 0 rfl) ?_
        refine va_get (D := G.1) (cl := vwCl) (tys := tysG G) (ci := 1) (v := .ref (bb 3)) (C := RX1) (T := TX1) (N := 4) hx hb hts iX1 hown hG.1 hP 2 rfl rfl 2 (Nat.le_of_ble_eq_true rfl) (hts _ tw_1_73) (fun _ h9 => h9) rfl dX10_move_59 ?_
        refine lv_iload_n hx hb dX10_move_62 rfl (lv_at hl 2 rfl) ?_
        refine va_iald hx hb hG.1 hP 5 0 rfl rfl ck10 dX10_move_63 ?_
        refine lv_isub hx hb dX10_move_64 ?_
        refine va_mabs hx hb (hml.trans hl.1.symm) hown (hts _ tw_3_89) (hts _ tw_3_90) (hts _ tw_1_15) (hts _ tw_3_91) (Nat.le_of_ble_eq_true rfl) (Nat.le_of_ble_eq_true rfl) (Nat.zero_le _) (Nat.zero_le _) dX10_move_65 ?_
        refine lv_iadd hx hb dX10_move_68 ?_
        obtain ⟨y11, e12, h⟩ := nm_ex h
        refine top_nm e12 ?_
        refine lv_istore (lv' := [(5, .int y11), (4, .ref (bb 0)), (0, .ref mm), (1, .int x1), (2, .int x2), (3, .int x3)]) hx hb dX10_move_69 hl (Nat.le_of_ble_eq_true rfl) rfl (fun ls hl => ?_)
        refine lv_aload_n hx hb dX10_move_71 rfl (lv_at hl 2 rfl) ?_
        refine va_get (D := G.1) (cl := vwCl) (tys := tysG G) (ci := 10) (v := .ref (aa 0)) (C := RX10) (T := TX10) (N := 8) hx hb hts iX10 hown hG.1 hP 0 rfl rfl 3 (Nat.le_of_ble_eq_true rfl) (hts _ tw_2_44) (fun _ h9 => h9) rfl dX10_move_72 ?_
        refine lv_iconst (v := 1) hx hb dX10_move_75 li_1 ?_
        refine lv_iload_n hx hb dX10_move_76 rfl (lv_at hl 3 rfl) ?_
        refine lv_aload hx hb dX10_move_77 (lv_at hl 1 rfl) ?_
        obtain ⟨r13, hc14, h⟩ := bd_ex h
        refine sl_V (q0 := 6) (ci := 0) (C := RX0) K (mX0_remember l G F aa bb σaa σbb (1 : Int32) x1 hc14) tw_3_83 tw_1_7 tw_3_81 tw_3_82 tw_3_80 cdX0_remember ⟨Nat.le_of_ble_eq_true rfl, Nat.le_of_ble_eq_true rfl⟩ hP hD hS [3, 2] rfl rfl rfl rfl rfl rfl rfl hl.1 (Nat.le_of_ble_eq_true rfl) ⟨Nat.zero_le _, Nat.zero_le _⟩ dX10_move_79 (fun H locs hP hD hS => ?_)
        have hP : va_P G.1 vwCl (List.flatten [wM mm mm_text mm_reader ff (aa 0) mm_seen mm_sights mm_rows mm_slots, wF ff (bb 0) ff_ground, wB G bb σbb, wA G aa r13]) H := hP
        have hD : va_D A (List.flatten [wM mm mm_text mm_reader ff (aa 0) mm_seen mm_sights mm_rows mm_slots, wF ff (bb 0) ff_ground, wB G bb σbb, wA G aa r13]) := hD
        refine lv_aload hx hb dX10_move_82 (lv_at hl 1 rfl) ?_
        refine va_get (D := G.1) (cl := vwCl) (tys := tysG G) (ci := 1) (v := .ref (bb 2)) (C := RX1) (T := TX1) (N := 4) hx hb hts iX1 hown hG.1 hP 2 rfl rfl 1 (Nat.le_of_ble_eq_true rfl) (hts _ tw_1_69) (fun _ h9 => h9) rfl dX10_move_84 ?_
        refine lv_iload_n hx hb dX10_move_87 rfl (lv_at hl 3 rfl) ?_
        refine lv_iload_n hx hb dX10_move_88 rfl (lv_at hl 4 rfl) ?_
        obtain ⟨s15, e16, h⟩ := nm_ex h
        refine va_iast hx hb hG.1 hP hD hS 4 0 rfl rfl ck10 dX10_move_89 (fun H locs hP hD hS => ?_)
        have hP : va_P G.1 vwCl (List.flatten [wM mm mm_text mm_reader ff (aa 0) mm_seen mm_sights mm_rows mm_slots, wF ff (bb 0) ff_ground, wB G bb s15, wA G aa r13]) H := by rw [e16]; exact hP
        have hD : va_D A (List.flatten [wM mm mm_text mm_reader ff (aa 0) mm_seen mm_sights mm_rows mm_slots, wF ff (bb 0) ff_ground, wB G bb s15, wA G aa r13]) := by rw [e16]; exact hD
        refine lv_aload hx hb dX10_move_90 (lv_at hl 1 rfl) ?_
        refine va_get (D := G.1) (cl := vwCl) (tys := tysG G) (ci := 1) (v := .ref (bb 3)) (C := RX1) (T := TX1) (N := 4) hx hb hts iX1 hown hG.1 hP 2 rfl rfl 2 (Nat.le_of_ble_eq_true rfl) (hts _ tw_1_73) (fun _ h9 => h9) rfl dX10_move_92 ?_
        refine lv_iload_n hx hb dX10_move_95 rfl (lv_at hl 3 rfl) ?_
        refine lv_iload_n hx hb dX10_move_96 rfl (lv_at hl 5 rfl) ?_
        obtain ⟨s17, e18, h⟩ := nm_ex h
        refine va_iast hx hb hG.1 hP hD hS 5 0 rfl rfl ck10 dX10_move_97 (fun H locs hP hD hS => ?_)
        have hP : va_P G.1 vwCl (List.flatten [wM mm mm_text mm_reader ff (aa 0) mm_seen mm_sights mm_rows mm_slots, wF ff (bb 0) ff_ground, wB G bb s17, wA G aa r13]) H := by rw [e18]; exact hP
        have hD : va_D A (List.flatten [wM mm mm_text mm_reader ff (aa 0) mm_seen mm_sights mm_rows mm_slots, wF ff (bb 0) ff_ground, wB G bb s17, wA G aa r13]) := by rw [e18]; exact hD
        refine lv_iload hx hb dX10_move_98 (lv_at hl 0 rfl) ?_
        cases h
        exact rt_i K hP hD hS dX10_move_100
      · have h := if_f c9 h
        refine lv_bipush (v := -3) hx hb dX10_move_41 lb_m3 ?_
        cases h
        exact rt_i K hP hD hS dX10_move_43
    · have h := if_t c6 h
      refine lv_bipush (v := -2) hx hb dX10_move_28 lb_m2 ?_
      cases h
      exact rt_i K hP hD hS dX10_move_30
  · have h := if_t c3 h
    refine lv_iconst (v := -1) hx hb dX10_move_18 li_m1 ?_
    cases h
    exact rt_i K hP hD hS dX10_move_19
def fX10_take (F : Nat) (σbb : ST) (σaa : ST) (x1 : Int32) : Option (Int32 × ST × ST) :=
  (fX1_has F σbb x1).bind fun r1 =>
  if r1 = 0 then
    some ((-1 : Int32), σbb, σaa)
  else
    (fX0_remember F σaa σbb (2 : Int32) x1).bind fun r4 =>
    (fX1_remove F σbb x1).bind fun r6 =>
    some (r6.1 3, r6, r4)
theorem cdX10_take : CallD yX10_take 1 := by decide +kernel
set_option maxHeartbeats 4000000 in
set_option maxRecDepth 100000 in
theorem mX10_take (l : Launch) (G : GP) (F : Nat) (mm : Nat) (ff : Nat) (bb : Nat → Nat) (aa : Nat → Nat) (mm_text : Nat) (mm_reader : Nat) (mm_seen : Nat) (mm_sights : Nat) (mm_rows : Nat) (mm_slots : Nat) (ff_ground : Nat) (σbb : ST) (σaa : ST) (x1 : Int32) {r : Int32 × ST × ST} (h : fX10_take F σbb σaa x1 = some r) : CC l G yX10_take cX10_take 3 (some .int) 4 [.ref mm, .int x1] (List.flatten [wM mm mm_text mm_reader ff (aa 0) mm_seen mm_sights mm_rows mm_slots, wF ff (bb 0) ff_ground, wB G bb σbb, wA G aa σaa]) (List.flatten [wM mm mm_text mm_reader ff (aa 0) mm_seen mm_sights mm_rows mm_slots, wF ff (bb 0) ff_ground, wB G bb r.2.1, wA G aa r.2.2]) (some (.int r.1)) := by
  refine CC.of (by decide) (Nat.le_of_ble_eq_true rfl) ?_
  intro p e s m below meth c A K hP hD hS ls hl
  obtain ⟨hx, hb, hr, hml, hts, hown, hlocks, hA, hG⟩ := id K
  have hl : lv_has ls 3 [(0, .ref mm), (1, .int x1)] := hl
  unfold fX10_take at h
  refine lv_aload_n hx hb dX10_take_0 rfl (lv_at hl 0 rfl) ?_
  refine va_get (D := G.1) (cl := vwCl) (tys := tysG G) (ci := 10) (v := .ref ff) (C := RX10) (T := TX10) (N := 8) hx hb hts iX10 hown hG.1 hP 0 rfl rfl 2 (Nat.le_of_ble_eq_true rfl) (hts _ tw_2_43) (fun _ h9 => h9) rfl dX10_take_1 ?_
  refine va_get (D := G.1) (cl := vwCl) (tys := tysG G) (ci := 2) (v := .ref (bb 0)) (C := RX2) (T := TX2) (N := 2) hx hb hts iX2 hown hG.1 hP 1 rfl rfl 0 (Nat.le_of_ble_eq_true rfl) (hts _ tw_1_125) (fun _ h9 => h9) rfl dX10_take_4 ?_
  refine lv_astore_n (lv' := [(2, .ref (bb 0)), (0, .ref mm), (1, .int x1)]) hx hb dX10_take_7 rfl hl (Nat.le_of_ble_eq_true rfl) rfl (fun ls hl => ?_)
  refine lv_aload_n hx hb dX10_take_8 rfl (lv_at hl 0 rfl) ?_
  refine lv_iload_n hx hb dX10_take_9 rfl (lv_at hl 2 rfl) ?_
  obtain ⟨r1, hc2, h⟩ := bd_ex h
  refine sl_V (q0 := 2) (ci := 1) (C := RX1) K (mX1_has l G F bb σbb x1 hc2) tw_3_50 tw_1_5 tw_3_48 tw_3_49 tw_3_47 cdX1_has ⟨Nat.le_of_ble_eq_true rfl, Nat.le_of_ble_eq_true rfl⟩ hP hD hS [2] rfl rfl rfl rfl rfl rfl rfl hl.1 (Nat.le_of_ble_eq_true rfl) ⟨Nat.zero_le _, Nat.zero_le _⟩ dX10_take_10 (fun H locs hP hD hS => ?_)
  have hP : va_P G.1 vwCl (List.flatten [wM mm mm_text mm_reader ff (aa 0) mm_seen mm_sights mm_rows mm_slots, wF ff (bb 0) ff_ground, wB G bb σbb, wA G aa σaa]) H := hP
  have hD : va_D A (List.flatten [wM mm mm_text mm_reader ff (aa 0) mm_seen mm_sights mm_rows mm_slots, wF ff (bb 0) ff_ground, wB G bb σbb, wA G aa σaa]) := hD
  refine lv_if_ne (tgt := 18) hx hb dX10_take_13 (by decide) (fun c3 => ?_) (fun c3 => ?_)
  · have h := if_f c3 h
    refine lv_aload_n hx hb dX10_take_18 rfl (lv_at hl 1 rfl) ?_
    refine va_get (D := G.1) (cl := vwCl) (tys := tysG G) (ci := 10) (v := .ref (aa 0)) (C := RX10) (T := TX10) (N := 8) hx hb hts iX10 hown hG.1 hP 0 rfl rfl 3 (Nat.le_of_ble_eq_true rfl) (hts _ tw_2_44) (fun _ h9 => h9) rfl dX10_take_19 ?_
    refine lv_iconst (v := 2) hx hb dX10_take_22 li_2 ?_
    refine lv_iload_n hx hb dX10_take_23 rfl (lv_at hl 2 rfl) ?_
    refine lv_aload_n hx hb dX10_take_24 rfl (lv_at hl 0 rfl) ?_
    obtain ⟨r4, hc5, h⟩ := bd_ex h
    refine sl_V (q0 := 6) (ci := 0) (C := RX0) K (mX0_remember l G F aa bb σaa σbb (2 : Int32) x1 hc5) tw_3_83 tw_1_7 tw_3_81 tw_3_82 tw_3_80 cdX0_remember ⟨Nat.le_of_ble_eq_true rfl, Nat.le_of_ble_eq_true rfl⟩ hP hD hS [3, 2] rfl rfl rfl rfl rfl rfl rfl hl.1 (Nat.le_of_ble_eq_true rfl) ⟨Nat.zero_le _, Nat.zero_le _⟩ dX10_take_25 (fun H locs hP hD hS => ?_)
    have hP : va_P G.1 vwCl (List.flatten [wM mm mm_text mm_reader ff (aa 0) mm_seen mm_sights mm_rows mm_slots, wF ff (bb 0) ff_ground, wB G bb σbb, wA G aa r4]) H := hP
    have hD : va_D A (List.flatten [wM mm mm_text mm_reader ff (aa 0) mm_seen mm_sights mm_rows mm_slots, wF ff (bb 0) ff_ground, wB G bb σbb, wA G aa r4]) := hD
    refine lv_aload_n hx hb dX10_take_28 rfl (lv_at hl 0 rfl) ?_
    refine lv_iload_n hx hb dX10_take_29 rfl (lv_at hl 2 rfl) ?_
    obtain ⟨r6, hc7, h⟩ := bd_ex h
    refine sl_V (q0 := 2) (ci := 1) (C := RX1) K (mX1_remove l G F bb σbb x1 hc7) tw_3_99 tw_1_5 tw_3_97 tw_3_98 tw_3_96 cdX1_remove ⟨Nat.le_of_ble_eq_true rfl, Nat.le_of_ble_eq_true rfl⟩ hP hD hS [2] rfl rfl rfl rfl rfl rfl rfl hl.1 (Nat.le_of_ble_eq_true rfl) ⟨Nat.zero_le _, Nat.zero_le _⟩ dX10_take_30 (fun H locs hP hD hS => ?_)
    have hP : va_P G.1 vwCl (List.flatten [wM mm mm_text mm_reader ff (aa 0) mm_seen mm_sights mm_rows mm_slots, wF ff (bb 0) ff_ground, wB G bb r6, wA G aa r4]) H := hP
    have hD : va_D A (List.flatten [wM mm mm_text mm_reader ff (aa 0) mm_seen mm_sights mm_rows mm_slots, wF ff (bb 0) ff_ground, wB G bb r6, wA G aa r4]) := hD
    refine lv_aload_n hx hb dX10_take_33 rfl (lv_at hl 0 rfl) ?_
    refine va_get (D := G.1) (cl := vwCl) (tys := tysG G) (ci := 1) (v := .int (r6.1 3)) (C := RX1) (T := TX1) (N := 4) hx hb hts iX1 hown hG.1 hP 2 rfl rfl 3 (Nat.le_of_ble_eq_true rfl) (hts _ tw_1_77) (fun _ h9 => h9) rfl dX10_take_34 ?_
    cases h
    exact rt_i K hP hD hS dX10_take_37
  · have h := if_t c3 h
    refine lv_iconst (v := -1) hx hb dX10_take_16 li_m1 ?_
    cases h
    exact rt_i K hP hD hS dX10_take_17
def fX10_back (F : Nat) (σbb : ST) (σaa : ST)  : Option (Int32 × ST × ST) :=
  if (σaa.1 6) = 0 then
    some ((-3 : Int32), σbb, σaa)
  else
    (fX0_undo F σaa σbb).bind fun r2 =>
    some (r2.1.1 6, r2.2, r2.1)
theorem cdX10_back : CallD yX10_back 0 := by decide +kernel
set_option maxHeartbeats 4000000 in
set_option maxRecDepth 100000 in
theorem mX10_back (l : Launch) (G : GP) (F : Nat) (mm : Nat) (ff : Nat) (bb : Nat → Nat) (aa : Nat → Nat) (mm_text : Nat) (mm_reader : Nat) (mm_seen : Nat) (mm_sights : Nat) (mm_rows : Nat) (mm_slots : Nat) (ff_ground : Nat) (σbb : ST) (σaa : ST)  {r : Int32 × ST × ST} (h : fX10_back F σbb σaa  = some r) : CC l G yX10_back cX10_back 1 (some .int) 5 [.ref mm] (List.flatten [wM mm mm_text mm_reader ff (aa 0) mm_seen mm_sights mm_rows mm_slots, wF ff (bb 0) ff_ground, wB G bb σbb, wA G aa σaa]) (List.flatten [wM mm mm_text mm_reader ff (aa 0) mm_seen mm_sights mm_rows mm_slots, wF ff (bb 0) ff_ground, wB G bb r.2.1, wA G aa r.2.2]) (some (.int r.1)) := by
  refine CC.of (by decide) (Nat.le_of_ble_eq_true rfl) ?_
  intro p e s m below meth c A K hP hD hS ls hl
  obtain ⟨hx, hb, hr, hml, hts, hown, hlocks, hA, hG⟩ := id K
  have hl : lv_has ls 1 [(0, .ref mm)] := hl
  unfold fX10_back at h
  refine lv_aload_n hx hb dX10_back_0 rfl (lv_at hl 0 rfl) ?_
  refine va_get (D := G.1) (cl := vwCl) (tys := tysG G) (ci := 10) (v := .ref (aa 0)) (C := RX10) (T := TX10) (N := 8) hx hb hts iX10 hown hG.1 hP 0 rfl rfl 3 (Nat.le_of_ble_eq_true rfl) (hts _ tw_2_44) (fun _ h9 => h9) rfl dX10_back_1 ?_
  refine va_get (D := G.1) (cl := vwCl) (tys := tysG G) (ci := 0) (v := .int (σaa.1 6)) (C := RX0) (T := TX0) (N := 7) hx hb hts iX0 hown hG.1 hP 6 rfl rfl 6 (Nat.le_of_ble_eq_true rfl) (hts _ tw_1_167) (fun _ h9 => h9) rfl dX10_back_4 ?_
  refine lv_if_ne (tgt := 13) hx hb dX10_back_7 (by decide) (fun c1 => ?_) (fun c1 => ?_)
  · have h := if_f c1 h
    refine lv_aload_n hx hb dX10_back_13 rfl (lv_at hl 0 rfl) ?_
    refine va_get (D := G.1) (cl := vwCl) (tys := tysG G) (ci := 10) (v := .ref (aa 0)) (C := RX10) (T := TX10) (N := 8) hx hb hts iX10 hown hG.1 hP 0 rfl rfl 3 (Nat.le_of_ble_eq_true rfl) (hts _ tw_2_44) (fun _ h9 => h9) rfl dX10_back_14 ?_
    refine lv_aload_n hx hb dX10_back_17 rfl (lv_at hl 0 rfl) ?_
    refine va_get (D := G.1) (cl := vwCl) (tys := tysG G) (ci := 10) (v := .ref ff) (C := RX10) (T := TX10) (N := 8) hx hb hts iX10 hown hG.1 hP 0 rfl rfl 2 (Nat.le_of_ble_eq_true rfl) (hts _ tw_2_43) (fun _ h9 => h9) rfl dX10_back_18 ?_
    refine va_get (D := G.1) (cl := vwCl) (tys := tysG G) (ci := 2) (v := .ref (bb 0)) (C := RX2) (T := TX2) (N := 2) hx hb hts iX2 hown hG.1 hP 1 rfl rfl 0 (Nat.le_of_ble_eq_true rfl) (hts _ tw_1_125) (fun _ h9 => h9) rfl dX10_back_21 ?_
    obtain ⟨r2, hc3, h⟩ := bd_ex h
    refine sl_V (q0 := 6) (ci := 0) (C := RX0) K (mX0_undo l G F aa bb σaa σbb hc3) tw_3_108 tw_1_7 tw_3_106 tw_3_107 tw_3_105 cdX0_undo ⟨Nat.le_of_ble_eq_true rfl, Nat.le_of_ble_eq_true rfl⟩ hP hD hS [3, 2] rfl rfl rfl rfl rfl rfl rfl hl.1 (Nat.le_of_ble_eq_true rfl) ⟨Nat.zero_le _, Nat.zero_le _⟩ dX10_back_24 (fun H locs hP hD hS => ?_)
    have hP : va_P G.1 vwCl (List.flatten [wM mm mm_text mm_reader ff (aa 0) mm_seen mm_sights mm_rows mm_slots, wF ff (bb 0) ff_ground, wB G bb r2.2, wA G aa r2.1]) H := hP
    have hD : va_D A (List.flatten [wM mm mm_text mm_reader ff (aa 0) mm_seen mm_sights mm_rows mm_slots, wF ff (bb 0) ff_ground, wB G bb r2.2, wA G aa r2.1]) := hD
    refine lv_aload_n hx hb dX10_back_27 rfl (lv_at hl 0 rfl) ?_
    refine va_get (D := G.1) (cl := vwCl) (tys := tysG G) (ci := 10) (v := .ref (aa 0)) (C := RX10) (T := TX10) (N := 8) hx hb hts iX10 hown hG.1 hP 0 rfl rfl 3 (Nat.le_of_ble_eq_true rfl) (hts _ tw_2_44) (fun _ h9 => h9) rfl dX10_back_28 ?_
    refine va_get (D := G.1) (cl := vwCl) (tys := tysG G) (ci := 0) (v := .int (r2.1.1 6)) (C := RX0) (T := TX0) (N := 7) hx hb hts iX0 hown hG.1 hP 6 rfl rfl 6 (Nat.le_of_ble_eq_true rfl) (hts _ tw_1_167) (fun _ h9 => h9) rfl dX10_back_31 ?_
    cases h
    exact rt_i K hP hD hS dX10_back_34
  · have h := if_t c1 h
    refine lv_bipush (v := -3) hx hb dX10_back_10 lb_m3 ?_
    cases h
    exact rt_i K hP hD hS dX10_back_12
def fX10_shadow (F : Nat) (σbb : ST) (x1 : Int32) (x2 : Int32) : Option (Int32) :=
  (fX1_has F σbb x1).bind fun r1 =>
  if r1 = 0 then
    some (-1 : Int32)
  else
    (fX10_isMinute F x2).bind fun r4 =>
    if r4 = 0 then
      some (-2 : Int32)
    else
      (fX1_height F σbb x1).bind fun r7 =>
      (fX10_lengthOfShadow F r7 x2).bind fun r9 =>
      some r9
theorem cdX10_shadow : CallD yX10_shadow 2 := by decide +kernel
set_option maxHeartbeats 4000000 in
set_option maxRecDepth 100000 in
theorem mX10_shadow (l : Launch) (G : GP) (F : Nat) (mm : Nat) (ff : Nat) (bb : Nat → Nat) (mm_text : Nat) (mm_reader : Nat) (mm_acts : Nat) (mm_seen : Nat) (mm_sights : Nat) (mm_rows : Nat) (mm_slots : Nat) (ff_ground : Nat) (σbb : ST) (x1 : Int32) (x2 : Int32) {r : Int32} (h : fX10_shadow F σbb x1 x2 = some r) : CC l G yX10_shadow cX10_shadow 3 (some .int) 3 [.ref mm, .int x1, .int x2] (List.flatten [wM mm mm_text mm_reader ff mm_acts mm_seen mm_sights mm_rows mm_slots, wF ff (bb 0) ff_ground, wB G bb σbb]) (List.flatten [wM mm mm_text mm_reader ff mm_acts mm_seen mm_sights mm_rows mm_slots, wF ff (bb 0) ff_ground, wB G bb σbb]) (some (.int r)) := by
  refine CC.of (by decide) (Nat.le_of_ble_eq_true rfl) ?_
  intro p e s m below meth c A K hP hD hS ls hl
  obtain ⟨hx, hb, hr, hml, hts, hown, hlocks, hA, hG⟩ := id K
  have hl : lv_has ls 3 [(0, .ref mm), (1, .int x1), (2, .int x2)] := hl
  unfold fX10_shadow at h
  refine lv_aload_n hx hb dX10_shadow_0 rfl (lv_at hl 0 rfl) ?_
  refine va_get (D := G.1) (cl := vwCl) (tys := tysG G) (ci := 10) (v := .ref ff) (C := RX10) (T := TX10) (N := 8) hx hb hts iX10 hown hG.1 hP 0 rfl rfl 2 (Nat.le_of_ble_eq_true rfl) (hts _ tw_2_43) (fun _ h9 => h9) rfl dX10_shadow_1 ?_
  refine va_get (D := G.1) (cl := vwCl) (tys := tysG G) (ci := 2) (v := .ref (bb 0)) (C := RX2) (T := TX2) (N := 2) hx hb hts iX2 hown hG.1 hP 1 rfl rfl 0 (Nat.le_of_ble_eq_true rfl) (hts _ tw_1_125) (fun _ h9 => h9) rfl dX10_shadow_4 ?_
  refine lv_iload_n hx hb dX10_shadow_7 rfl (lv_at hl 1 rfl) ?_
  obtain ⟨r1, hc2, h⟩ := bd_ex h
  refine sl_V (q0 := 2) (ci := 1) (C := RX1) K (mX1_has l G F bb σbb x1 hc2) tw_3_50 tw_1_5 tw_3_48 tw_3_49 tw_3_47 cdX1_has ⟨Nat.le_of_ble_eq_true rfl, Nat.le_of_ble_eq_true rfl⟩ hP hD hS [2] rfl rfl rfl rfl rfl rfl rfl hl.1 (Nat.le_of_ble_eq_true rfl) ⟨Nat.zero_le _, Nat.zero_le _⟩ dX10_shadow_8 (fun H locs hP hD hS => ?_)
  have hP : va_P G.1 vwCl (List.flatten [wM mm mm_text mm_reader ff mm_acts mm_seen mm_sights mm_rows mm_slots, wF ff (bb 0) ff_ground, wB G bb σbb]) H := hP
  have hD : va_D A (List.flatten [wM mm mm_text mm_reader ff mm_acts mm_seen mm_sights mm_rows mm_slots, wF ff (bb 0) ff_ground, wB G bb σbb]) := hD
  refine lv_if_ne (tgt := 16) hx hb dX10_shadow_11 (by decide) (fun c3 => ?_) (fun c3 => ?_)
  · have h := if_f c3 h
    refine lv_iload_n hx hb dX10_shadow_16 rfl (lv_at hl 2 rfl) ?_
    obtain ⟨r4, hc5, h⟩ := bd_ex h
    refine sl_S K (mX10_isMinute l G F x2 hc5) tw_2_221 tw_1_1 tw_2_220 tw_3_115 cdX10_isMinute ⟨Nat.le_of_ble_eq_true rfl, Nat.le_of_ble_eq_true rfl⟩ hP hD hS [] rfl rfl rfl rfl hl.1 (Nat.le_of_ble_eq_true rfl) ⟨Nat.zero_le _, Nat.zero_le _⟩ dX10_shadow_17 (fun H locs hP hD hS => ?_)
    have hP : va_P G.1 vwCl (List.flatten [wM mm mm_text mm_reader ff mm_acts mm_seen mm_sights mm_rows mm_slots, wF ff (bb 0) ff_ground, wB G bb σbb]) H := hP
    have hD : va_D A (List.flatten [wM mm mm_text mm_reader ff mm_acts mm_seen mm_sights mm_rows mm_slots, wF ff (bb 0) ff_ground, wB G bb σbb]) := hD
    refine lv_if_eq (tgt := 41) hx hb dX10_shadow_20 (by decide) (fun c6 => ?_) (fun c6 => ?_)
    · have h := if_t c6 h
      refine lv_bipush (v := -2) hx hb dX10_shadow_41 lb_m2 ?_
      cases h
      exact rt_i K hP hD hS dX10_shadow_43
    · have h := if_f c6 h
      refine lv_aload_n hx hb dX10_shadow_23 rfl (lv_at hl 0 rfl) ?_
      refine va_get (D := G.1) (cl := vwCl) (tys := tysG G) (ci := 10) (v := .ref ff) (C := RX10) (T := TX10) (N := 8) hx hb hts iX10 hown hG.1 hP 0 rfl rfl 2 (Nat.le_of_ble_eq_true rfl) (hts _ tw_2_43) (fun _ h9 => h9) rfl dX10_shadow_24 ?_
      refine va_get (D := G.1) (cl := vwCl) (tys := tysG G) (ci := 2) (v := .ref (bb 0)) (C := RX2) (T := TX2) (N := 2) hx hb hts iX2 hown hG.1 hP 1 rfl rfl 0 (Nat.le_of_ble_eq_true rfl) (hts _ tw_1_125) (fun _ h9 => h9) rfl dX10_shadow_27 ?_
      refine lv_iload_n hx hb dX10_shadow_30 rfl (lv_at hl 1 rfl) ?_
      obtain ⟨r7, hc8, h⟩ := bd_ex h
      refine sl_V (q0 := 2) (ci := 1) (C := RX1) K (mX1_height l G F bb σbb x1 hc8) tw_3_54 tw_1_5 tw_3_52 tw_3_53 tw_3_51 cdX1_height ⟨Nat.le_of_ble_eq_true rfl, Nat.le_of_ble_eq_true rfl⟩ hP hD hS [2] rfl rfl rfl rfl rfl rfl rfl hl.1 (Nat.le_of_ble_eq_true rfl) ⟨Nat.zero_le _, Nat.zero_le _⟩ dX10_shadow_31 (fun H locs hP hD hS => ?_)
      have hP : va_P G.1 vwCl (List.flatten [wM mm mm_text mm_reader ff mm_acts mm_seen mm_sights mm_rows mm_slots, wF ff (bb 0) ff_ground, wB G bb σbb]) H := hP
      have hD : va_D A (List.flatten [wM mm mm_text mm_reader ff mm_acts mm_seen mm_sights mm_rows mm_slots, wF ff (bb 0) ff_ground, wB G bb σbb]) := hD
      refine lv_iload_n hx hb dX10_shadow_34 rfl (lv_at hl 2 rfl) ?_
      obtain ⟨r9, hc10, h⟩ := bd_ex h
      refine sl_S K (mX10_lengthOfShadow l G F r7 x2 hc10) tw_3_118 tw_1_1 tw_3_117 tw_3_116 cdX10_lengthOfShadow ⟨Nat.le_of_ble_eq_true rfl, Nat.le_of_ble_eq_true rfl⟩ hP hD hS [] rfl rfl rfl rfl hl.1 (Nat.le_of_ble_eq_true rfl) ⟨Nat.zero_le _, Nat.zero_le _⟩ dX10_shadow_35 (fun H locs hP hD hS => ?_)
      have hP : va_P G.1 vwCl (List.flatten [wM mm mm_text mm_reader ff mm_acts mm_seen mm_sights mm_rows mm_slots, wF ff (bb 0) ff_ground, wB G bb σbb]) H := hP
      have hD : va_D A (List.flatten [wM mm mm_text mm_reader ff mm_acts mm_seen mm_sights mm_rows mm_slots, wF ff (bb 0) ff_ground, wB G bb σbb]) := hD
      refine lv_goto (tgt := 43) hx hb dX10_shadow_38 (by decide) ?_
      cases h
      exact rt_i K hP hD hS dX10_shadow_43
  · have h := if_t c3 h
    refine lv_iconst (v := -1) hx hb dX10_shadow_14 li_m1 ?_
    cases h
    exact rt_i K hP hD hS dX10_shadow_15
def fX10_dark (F : Nat) (σbb : ST) (σdd : ST) (x1 : Int32) (x2 : Int32) : Option (Int32) :=
  (fX10_isMinute F x1).bind fun r1 =>
  if r1 = 0 then
    some (-2 : Int32)
  else
    (fX10_isBelow F x2 (6 : Int32)).bind fun r4 =>
    if r4 = 0 then
      some (-2 : Int32)
    else
      (fX2_darkCells F σbb σdd x1 x2).bind fun r7 =>
      some r7
theorem cdX10_dark : CallD yX10_dark 2 := by decide +kernel
set_option maxHeartbeats 4000000 in
set_option maxRecDepth 100000 in
theorem mX10_dark (l : Launch) (G : GP) (F : Nat) (mm : Nat) (ff : Nat) (bb : Nat → Nat) (dd : Nat → Nat) (mm_text : Nat) (mm_reader : Nat) (mm_acts : Nat) (mm_seen : Nat) (mm_sights : Nat) (mm_rows : Nat) (mm_slots : Nat) (σbb : ST) (σdd : ST) (x1 : Int32) (x2 : Int32) {r : Int32} (h : fX10_dark F σbb σdd x1 x2 = some r) : CC l G yX10_dark cX10_dark 3 (some .int) 5 [.ref mm, .int x1, .int x2] (List.flatten [wM mm mm_text mm_reader ff mm_acts mm_seen mm_sights mm_rows mm_slots, wF ff (bb 0) (dd 0), wB G bb σbb, wD G dd σdd]) (List.flatten [wM mm mm_text mm_reader ff mm_acts mm_seen mm_sights mm_rows mm_slots, wF ff (bb 0) (dd 0), wB G bb σbb, wD G dd σdd]) (some (.int r)) := by
  refine CC.of (by decide) (Nat.le_of_ble_eq_true rfl) ?_
  intro p e s m below meth c A K hP hD hS ls hl
  obtain ⟨hx, hb, hr, hml, hts, hown, hlocks, hA, hG⟩ := id K
  have hl : lv_has ls 3 [(0, .ref mm), (1, .int x1), (2, .int x2)] := hl
  unfold fX10_dark at h
  refine lv_iload_n hx hb dX10_dark_0 rfl (lv_at hl 1 rfl) ?_
  obtain ⟨r1, hc2, h⟩ := bd_ex h
  refine sl_S K (mX10_isMinute l G F x1 hc2) tw_2_221 tw_1_1 tw_2_220 tw_3_115 cdX10_isMinute ⟨Nat.le_of_ble_eq_true rfl, Nat.le_of_ble_eq_true rfl⟩ hP hD hS [] rfl rfl rfl rfl hl.1 (Nat.le_of_ble_eq_true rfl) ⟨Nat.zero_le _, Nat.zero_le _⟩ dX10_dark_1 (fun H locs hP hD hS => ?_)
  have hP : va_P G.1 vwCl (List.flatten [wM mm mm_text mm_reader ff mm_acts mm_seen mm_sights mm_rows mm_slots, wF ff (bb 0) (dd 0), wB G bb σbb, wD G dd σdd]) H := hP
  have hD : va_D A (List.flatten [wM mm mm_text mm_reader ff mm_acts mm_seen mm_sights mm_rows mm_slots, wF ff (bb 0) (dd 0), wB G bb σbb, wD G dd σdd]) := hD
  refine lv_if_eq (tgt := 28) hx hb dX10_dark_4 (by decide) (fun c3 => ?_) (fun c3 => ?_)
  · have h := if_t c3 h
    refine lv_bipush (v := -2) hx hb dX10_dark_28 lb_m2 ?_
    cases h
    exact rt_i K hP hD hS dX10_dark_30
  · have h := if_f c3 h
    refine lv_iload_n hx hb dX10_dark_7 rfl (lv_at hl 2 rfl) ?_
    refine lv_bipush (v := 6) hx hb dX10_dark_8 lb_6 ?_
    obtain ⟨r4, hc5, h⟩ := bd_ex h
    refine sl_S K (mX10_isBelow l G F x2 (6 : Int32) hc5) tw_2_194 tw_1_1 tw_2_193 tw_2_222 cdX10_isBelow ⟨Nat.le_of_ble_eq_true rfl, Nat.le_of_ble_eq_true rfl⟩ hP hD hS [] rfl rfl rfl rfl hl.1 (Nat.le_of_ble_eq_true rfl) ⟨Nat.zero_le _, Nat.zero_le _⟩ dX10_dark_10 (fun H locs hP hD hS => ?_)
    have hP : va_P G.1 vwCl (List.flatten [wM mm mm_text mm_reader ff mm_acts mm_seen mm_sights mm_rows mm_slots, wF ff (bb 0) (dd 0), wB G bb σbb, wD G dd σdd]) H := hP
    have hD : va_D A (List.flatten [wM mm mm_text mm_reader ff mm_acts mm_seen mm_sights mm_rows mm_slots, wF ff (bb 0) (dd 0), wB G bb σbb, wD G dd σdd]) := hD
    refine lv_if_eq (tgt := 28) hx hb dX10_dark_13 (by decide) (fun c6 => ?_) (fun c6 => ?_)
    · have h := if_t c6 h
      refine lv_bipush (v := -2) hx hb dX10_dark_28 lb_m2 ?_
      cases h
      exact rt_i K hP hD hS dX10_dark_30
    · have h := if_f c6 h
      refine lv_aload_n hx hb dX10_dark_16 rfl (lv_at hl 0 rfl) ?_
      refine va_get (D := G.1) (cl := vwCl) (tys := tysG G) (ci := 10) (v := .ref ff) (C := RX10) (T := TX10) (N := 8) hx hb hts iX10 hown hG.1 hP 0 rfl rfl 2 (Nat.le_of_ble_eq_true rfl) (hts _ tw_2_43) (fun _ h9 => h9) rfl dX10_dark_17 ?_
      refine lv_iload_n hx hb dX10_dark_20 rfl (lv_at hl 1 rfl) ?_
      refine lv_iload_n hx hb dX10_dark_21 rfl (lv_at hl 2 rfl) ?_
      obtain ⟨r7, hc8, h⟩ := bd_ex h
      refine sl_V (q0 := 1) (ci := 2) (C := RX2) K (mX2_darkCells l G F ff bb dd σbb σdd x1 x2 hc8) tw_3_126 tw_1_4 tw_3_124 tw_3_125 tw_3_123 cdX2_darkCells ⟨Nat.le_of_ble_eq_true rfl, Nat.le_of_ble_eq_true rfl⟩ hP hD hS [1, 2, 3] rfl rfl rfl rfl rfl rfl rfl hl.1 (Nat.le_of_ble_eq_true rfl) ⟨Nat.zero_le _, Nat.zero_le _⟩ dX10_dark_22 (fun H locs hP hD hS => ?_)
      have hP : va_P G.1 vwCl (List.flatten [wM mm mm_text mm_reader ff mm_acts mm_seen mm_sights mm_rows mm_slots, wF ff (bb 0) (dd 0), wB G bb σbb, wD G dd σdd]) H := hP
      have hD : va_D A (List.flatten [wM mm mm_text mm_reader ff mm_acts mm_seen mm_sights mm_rows mm_slots, wF ff (bb 0) (dd 0), wB G bb σbb, wD G dd σdd]) := hD
      refine lv_goto (tgt := 30) hx hb dX10_dark_25 (by decide) ?_
      cases h
      exact rt_i K hP hD hS dX10_dark_30
def fX10_runs (F : Nat) (σbb : ST) (σdd : ST) (σrr : ST) (x1 : Int32) (x2 : Int32) : Option (Int32 × ST) :=
  (fX4_hasHill F σdd x1).bind fun r1 =>
  if r1 = 0 then
    some ((-1 : Int32), σrr)
  else
    (fX10_isMinute F x2).bind fun r4 =>
    if r4 = 0 then
      some ((-2 : Int32), σrr)
    else
      (fX6_look F σrr σbb σdd x1 x2).bind fun r7 =>
      some (r7.1 3, r7)
theorem cdX10_runs : CallD yX10_runs 2 := by decide +kernel
set_option maxHeartbeats 4000000 in
set_option maxRecDepth 100000 in
theorem mX10_runs (l : Launch) (G : GP) (F : Nat) (mm : Nat) (ff : Nat) (bb : Nat → Nat) (dd : Nat → Nat) (rr : Nat → Nat) (mm_text : Nat) (mm_reader : Nat) (mm_acts : Nat) (mm_sights : Nat) (mm_rows : Nat) (mm_slots : Nat) (σbb : ST) (σdd : ST) (σrr : ST) (x1 : Int32) (x2 : Int32) {r : Int32 × ST} (h : fX10_runs F σbb σdd σrr x1 x2 = some r) : CC l G yX10_runs cX10_runs 3 (some .int) 6 [.ref mm, .int x1, .int x2] (List.flatten [wM mm mm_text mm_reader ff mm_acts (rr 0) mm_sights mm_rows mm_slots, wF ff (bb 0) (dd 0), wB G bb σbb, wD G dd σdd, wR G rr σrr]) (List.flatten [wM mm mm_text mm_reader ff mm_acts (rr 0) mm_sights mm_rows mm_slots, wF ff (bb 0) (dd 0), wB G bb σbb, wD G dd σdd, wR G rr r.2]) (some (.int r.1)) := by
  refine CC.of (by decide) (Nat.le_of_ble_eq_true rfl) ?_
  intro p e s m below meth c A K hP hD hS ls hl
  obtain ⟨hx, hb, hr, hml, hts, hown, hlocks, hA, hG⟩ := id K
  have hl : lv_has ls 3 [(0, .ref mm), (1, .int x1), (2, .int x2)] := hl
  unfold fX10_runs at h
  refine lv_aload_n hx hb dX10_runs_0 rfl (lv_at hl 0 rfl) ?_
  refine va_get (D := G.1) (cl := vwCl) (tys := tysG G) (ci := 10) (v := .ref ff) (C := RX10) (T := TX10) (N := 8) hx hb hts iX10 hown hG.1 hP 0 rfl rfl 2 (Nat.le_of_ble_eq_true rfl) (hts _ tw_2_43) (fun _ h9 => h9) rfl dX10_runs_1 ?_
  refine va_get (D := G.1) (cl := vwCl) (tys := tysG G) (ci := 2) (v := .ref (dd 0)) (C := RX2) (T := TX2) (N := 2) hx hb hts iX2 hown hG.1 hP 1 rfl rfl 1 (Nat.le_of_ble_eq_true rfl) (hts _ tw_1_129) (fun _ h9 => h9) rfl dX10_runs_4 ?_
  refine lv_iload_n hx hb dX10_runs_7 rfl (lv_at hl 1 rfl) ?_
  obtain ⟨r1, hc2, h⟩ := bd_ex h
  refine sl_V (q0 := 6) (ci := 4) (C := RX4) K (mX4_hasHill l G F dd σdd x1 hc2) tw_3_70 tw_1_6 tw_3_68 tw_3_69 tw_3_67 cdX4_hasHill ⟨Nat.le_of_ble_eq_true rfl, Nat.le_of_ble_eq_true rfl⟩ hP hD hS [3] rfl rfl rfl rfl rfl rfl rfl hl.1 (Nat.le_of_ble_eq_true rfl) ⟨Nat.zero_le _, Nat.zero_le _⟩ dX10_runs_8 (fun H locs hP hD hS => ?_)
  have hP : va_P G.1 vwCl (List.flatten [wM mm mm_text mm_reader ff mm_acts (rr 0) mm_sights mm_rows mm_slots, wF ff (bb 0) (dd 0), wB G bb σbb, wD G dd σdd, wR G rr σrr]) H := hP
  have hD : va_D A (List.flatten [wM mm mm_text mm_reader ff mm_acts (rr 0) mm_sights mm_rows mm_slots, wF ff (bb 0) (dd 0), wB G bb σbb, wD G dd σdd, wR G rr σrr]) := hD
  refine lv_if_ne (tgt := 16) hx hb dX10_runs_11 (by decide) (fun c3 => ?_) (fun c3 => ?_)
  · have h := if_f c3 h
    refine lv_iload_n hx hb dX10_runs_16 rfl (lv_at hl 2 rfl) ?_
    obtain ⟨r4, hc5, h⟩ := bd_ex h
    refine sl_S K (mX10_isMinute l G F x2 hc5) tw_2_221 tw_1_1 tw_2_220 tw_3_115 cdX10_isMinute ⟨Nat.le_of_ble_eq_true rfl, Nat.le_of_ble_eq_true rfl⟩ hP hD hS [] rfl rfl rfl rfl hl.1 (Nat.le_of_ble_eq_true rfl) ⟨Nat.zero_le _, Nat.zero_le _⟩ dX10_runs_17 (fun H locs hP hD hS => ?_)
    have hP : va_P G.1 vwCl (List.flatten [wM mm mm_text mm_reader ff mm_acts (rr 0) mm_sights mm_rows mm_slots, wF ff (bb 0) (dd 0), wB G bb σbb, wD G dd σdd, wR G rr σrr]) H := hP
    have hD : va_D A (List.flatten [wM mm mm_text mm_reader ff mm_acts (rr 0) mm_sights mm_rows mm_slots, wF ff (bb 0) (dd 0), wB G bb σbb, wD G dd σdd, wR G rr σrr]) := hD
    refine lv_if_ne (tgt := 26) hx hb dX10_runs_20 (by decide) (fun c6 => ?_) (fun c6 => ?_)
    · have h := if_f c6 h
      refine lv_aload_n hx hb dX10_runs_26 rfl (lv_at hl 0 rfl) ?_
      refine va_get (D := G.1) (cl := vwCl) (tys := tysG G) (ci := 10) (v := .ref (rr 0)) (C := RX10) (T := TX10) (N := 8) hx hb hts iX10 hown hG.1 hP 0 rfl rfl 4 (Nat.le_of_ble_eq_true rfl) (hts _ tw_2_45) (fun _ h9 => h9) rfl dX10_runs_27 ?_
      refine lv_aload_n hx hb dX10_runs_30 rfl (lv_at hl 0 rfl) ?_
      refine va_get (D := G.1) (cl := vwCl) (tys := tysG G) (ci := 10) (v := .ref ff) (C := RX10) (T := TX10) (N := 8) hx hb hts iX10 hown hG.1 hP 0 rfl rfl 2 (Nat.le_of_ble_eq_true rfl) (hts _ tw_2_43) (fun _ h9 => h9) rfl dX10_runs_31 ?_
      refine lv_iload_n hx hb dX10_runs_34 rfl (lv_at hl 1 rfl) ?_
      refine lv_iload_n hx hb dX10_runs_35 rfl (lv_at hl 2 rfl) ?_
      obtain ⟨r7, hc8, h⟩ := bd_ex h
      refine sl_V (q0 := 17) (ci := 6) (C := RX6) K (mX6_look l G F rr ff bb dd σrr σbb σdd x1 x2 hc8) tw_3_149 tw_1_8 tw_3_147 tw_3_148 tw_3_146 cdX6_look ⟨Nat.le_of_ble_eq_true rfl, Nat.le_of_ble_eq_true rfl⟩ hP hD hS [4, 1, 2, 3] rfl rfl rfl rfl rfl rfl rfl hl.1 (Nat.le_of_ble_eq_true rfl) ⟨Nat.zero_le _, Nat.zero_le _⟩ dX10_runs_36 (fun H locs hP hD hS => ?_)
      have hP : va_P G.1 vwCl (List.flatten [wM mm mm_text mm_reader ff mm_acts (rr 0) mm_sights mm_rows mm_slots, wF ff (bb 0) (dd 0), wB G bb σbb, wD G dd σdd, wR G rr r7]) H := hP
      have hD : va_D A (List.flatten [wM mm mm_text mm_reader ff mm_acts (rr 0) mm_sights mm_rows mm_slots, wF ff (bb 0) (dd 0), wB G bb σbb, wD G dd σdd, wR G rr r7]) := hD
      refine lv_aload_n hx hb dX10_runs_39 rfl (lv_at hl 0 rfl) ?_
      refine va_get (D := G.1) (cl := vwCl) (tys := tysG G) (ci := 10) (v := .ref (rr 0)) (C := RX10) (T := TX10) (N := 8) hx hb hts iX10 hown hG.1 hP 0 rfl rfl 4 (Nat.le_of_ble_eq_true rfl) (hts _ tw_2_45) (fun _ h9 => h9) rfl dX10_runs_40 ?_
      refine va_get (D := G.1) (cl := vwCl) (tys := tysG G) (ci := 6) (v := .int (r7.1 3)) (C := RX6) (T := TX6) (N := 4) hx hb hts iX6 hown hG.1 hP 17 rfl rfl 3 (Nat.le_of_ble_eq_true rfl) (hts _ tw_1_196) (fun _ h9 => h9) rfl dX10_runs_43 ?_
      cases h
      exact rt_i K hP hD hS dX10_runs_46
    · have h := if_t c6 h
      refine lv_bipush (v := -2) hx hb dX10_runs_23 lb_m2 ?_
      cases h
      exact rt_i K hP hD hS dX10_runs_25
  · have h := if_t c3 h
    refine lv_iconst (v := -1) hx hb dX10_runs_14 li_m1 ?_
    cases h
    exact rt_i K hP hD hS dX10_runs_15
def fX10_run (F : Nat) (σbb : ST) (σdd : ST) (σrr : ST) (x1 : Int32) (x2 : Int32) (x3 : Int32) (x4 : Int32) : Option (Int32 × ST) :=
  (fX4_hasHill F σdd x1).bind fun r1 =>
  if r1 = 0 then
    some ((-1 : Int32), σrr)
  else
    (fX10_isMinute F x2).bind fun r4 =>
    if r4 = 0 then
      some ((-2 : Int32), σrr)
    else
      (fX10_isBelow F x4 (3 : Int32)).bind fun r7 =>
      if r7 = 0 then
        some ((-2 : Int32), σrr)
      else
        (fX6_look F σrr σbb σdd x1 x2).bind fun r10 =>
        (fX10_isBelow F x3 (r10.1 3)).bind fun r12 =>
        if r12 = 0 then
          some ((-9 : Int32), r10)
        else
          if x4 = 0 then
            if x3 < 0 ∨ 30 ≤ x3.toNatClampNeg then none else
            some (r10.2.1 0 x3.toNatClampNeg, r10)
          else
            if x4 = (1 : Int32) then
              if x3 < 0 ∨ 30 ≤ x3.toNatClampNeg then none else
              some (r10.2.1 1 x3.toNatClampNeg, r10)
            else
              if x3 < 0 ∨ 30 ≤ x3.toNatClampNeg then none else
              some (r10.2.1 2 x3.toNatClampNeg, r10)
theorem cdX10_run : CallD yX10_run 4 := by decide +kernel
set_option maxHeartbeats 4000000 in
set_option maxRecDepth 100000 in
theorem mX10_run (l : Launch) (G : GP) (F : Nat) (mm : Nat) (ff : Nat) (bb : Nat → Nat) (dd : Nat → Nat) (rr : Nat → Nat) (mm_text : Nat) (mm_reader : Nat) (mm_acts : Nat) (mm_sights : Nat) (mm_rows : Nat) (mm_slots : Nat) (σbb : ST) (σdd : ST) (σrr : ST) (x1 : Int32) (x2 : Int32) (x3 : Int32) (x4 : Int32) {r : Int32 × ST} (h : fX10_run F σbb σdd σrr x1 x2 x3 x4 = some r) : CC l G yX10_run cX10_run 5 (some .int) 6 [.ref mm, .int x1, .int x2, .int x3, .int x4] (List.flatten [wM mm mm_text mm_reader ff mm_acts (rr 0) mm_sights mm_rows mm_slots, wF ff (bb 0) (dd 0), wB G bb σbb, wD G dd σdd, wR G rr σrr]) (List.flatten [wM mm mm_text mm_reader ff mm_acts (rr 0) mm_sights mm_rows mm_slots, wF ff (bb 0) (dd 0), wB G bb σbb, wD G dd σdd, wR G rr r.2]) (some (.int r.1)) := by
  refine CC.of (by decide) (Nat.le_of_ble_eq_true rfl) ?_
  intro p e s m below meth c A K hP hD hS ls hl
  obtain ⟨hx, hb, hr, hml, hts, hown, hlocks, hA, hG⟩ := id K
  have hl : lv_has ls 5 [(0, .ref mm), (1, .int x1), (2, .int x2), (3, .int x3), (4, .int x4)] := hl
  unfold fX10_run at h
  refine lv_aload_n hx hb dX10_run_0 rfl (lv_at hl 0 rfl) ?_
  refine va_get (D := G.1) (cl := vwCl) (tys := tysG G) (ci := 10) (v := .ref ff) (C := RX10) (T := TX10) (N := 8) hx hb hts iX10 hown hG.1 hP 0 rfl rfl 2 (Nat.le_of_ble_eq_true rfl) (hts _ tw_2_43) (fun _ h9 => h9) rfl dX10_run_1 ?_
  refine va_get (D := G.1) (cl := vwCl) (tys := tysG G) (ci := 2) (v := .ref (dd 0)) (C := RX2) (T := TX2) (N := 2) hx hb hts iX2 hown hG.1 hP 1 rfl rfl 1 (Nat.le_of_ble_eq_true rfl) (hts _ tw_1_129) (fun _ h9 => h9) rfl dX10_run_4 ?_
  refine lv_iload_n hx hb dX10_run_7 rfl (lv_at hl 1 rfl) ?_
  obtain ⟨r1, hc2, h⟩ := bd_ex h
  refine sl_V (q0 := 6) (ci := 4) (C := RX4) K (mX4_hasHill l G F dd σdd x1 hc2) tw_3_70 tw_1_6 tw_3_68 tw_3_69 tw_3_67 cdX4_hasHill ⟨Nat.le_of_ble_eq_true rfl, Nat.le_of_ble_eq_true rfl⟩ hP hD hS [3] rfl rfl rfl rfl rfl rfl rfl hl.1 (Nat.le_of_ble_eq_true rfl) ⟨Nat.zero_le _, Nat.zero_le _⟩ dX10_run_8 (fun H locs hP hD hS => ?_)
  have hP : va_P G.1 vwCl (List.flatten [wM mm mm_text mm_reader ff mm_acts (rr 0) mm_sights mm_rows mm_slots, wF ff (bb 0) (dd 0), wB G bb σbb, wD G dd σdd, wR G rr σrr]) H := hP
  have hD : va_D A (List.flatten [wM mm mm_text mm_reader ff mm_acts (rr 0) mm_sights mm_rows mm_slots, wF ff (bb 0) (dd 0), wB G bb σbb, wD G dd σdd, wR G rr σrr]) := hD
  refine lv_if_ne (tgt := 16) hx hb dX10_run_11 (by decide) (fun c3 => ?_) (fun c3 => ?_)
  · have h := if_f c3 h
    refine lv_iload_n hx hb dX10_run_16 rfl (lv_at hl 2 rfl) ?_
    obtain ⟨r4, hc5, h⟩ := bd_ex h
    refine sl_S K (mX10_isMinute l G F x2 hc5) tw_2_221 tw_1_1 tw_2_220 tw_3_115 cdX10_isMinute ⟨Nat.le_of_ble_eq_true rfl, Nat.le_of_ble_eq_true rfl⟩ hP hD hS [] rfl rfl rfl rfl hl.1 (Nat.le_of_ble_eq_true rfl) ⟨Nat.zero_le _, Nat.zero_le _⟩ dX10_run_17 (fun H locs hP hD hS => ?_)
    have hP : va_P G.1 vwCl (List.flatten [wM mm mm_text mm_reader ff mm_acts (rr 0) mm_sights mm_rows mm_slots, wF ff (bb 0) (dd 0), wB G bb σbb, wD G dd σdd, wR G rr σrr]) H := hP
    have hD : va_D A (List.flatten [wM mm mm_text mm_reader ff mm_acts (rr 0) mm_sights mm_rows mm_slots, wF ff (bb 0) (dd 0), wB G bb σbb, wD G dd σdd, wR G rr σrr]) := hD
    refine lv_if_eq (tgt := 32) hx hb dX10_run_20 (by decide) (fun c6 => ?_) (fun c6 => ?_)
    · have h := if_t c6 h
      refine lv_bipush (v := -2) hx hb dX10_run_32 lb_m2 ?_
      cases h
      exact rt_i K hP hD hS dX10_run_34
    · have h := if_f c6 h
      refine lv_iload hx hb dX10_run_23 (lv_at hl 4 rfl) ?_
      refine lv_iconst (v := 3) hx hb dX10_run_25 li_3 ?_
      obtain ⟨r7, hc8, h⟩ := bd_ex h
      refine sl_S K (mX10_isBelow l G F x4 (3 : Int32) hc8) tw_2_194 tw_1_1 tw_2_193 tw_2_222 cdX10_isBelow ⟨Nat.le_of_ble_eq_true rfl, Nat.le_of_ble_eq_true rfl⟩ hP hD hS [] rfl rfl rfl rfl hl.1 (Nat.le_of_ble_eq_true rfl) ⟨Nat.zero_le _, Nat.zero_le _⟩ dX10_run_26 (fun H locs hP hD hS => ?_)
      have hP : va_P G.1 vwCl (List.flatten [wM mm mm_text mm_reader ff mm_acts (rr 0) mm_sights mm_rows mm_slots, wF ff (bb 0) (dd 0), wB G bb σbb, wD G dd σdd, wR G rr σrr]) H := hP
      have hD : va_D A (List.flatten [wM mm mm_text mm_reader ff mm_acts (rr 0) mm_sights mm_rows mm_slots, wF ff (bb 0) (dd 0), wB G bb σbb, wD G dd σdd, wR G rr σrr]) := hD
      refine lv_if_ne (tgt := 35) hx hb dX10_run_29 (by decide) (fun c9 => ?_) (fun c9 => ?_)
      · have h := if_f c9 h
        refine lv_aload_n hx hb dX10_run_35 rfl (lv_at hl 0 rfl) ?_
        refine va_get (D := G.1) (cl := vwCl) (tys := tysG G) (ci := 10) (v := .ref (rr 0)) (C := RX10) (T := TX10) (N := 8) hx hb hts iX10 hown hG.1 hP 0 rfl rfl 4 (Nat.le_of_ble_eq_true rfl) (hts _ tw_2_45) (fun _ h9 => h9) rfl dX10_run_36 ?_
        refine lv_aload_n hx hb dX10_run_39 rfl (lv_at hl 0 rfl) ?_
        refine va_get (D := G.1) (cl := vwCl) (tys := tysG G) (ci := 10) (v := .ref ff) (C := RX10) (T := TX10) (N := 8) hx hb hts iX10 hown hG.1 hP 0 rfl rfl 2 (Nat.le_of_ble_eq_true rfl) (hts _ tw_2_43) (fun _ h9 => h9) rfl dX10_run_40 ?_
        refine lv_iload_n hx hb dX10_run_43 rfl (lv_at hl 1 rfl) ?_
        refine lv_iload_n hx hb dX10_run_44 rfl (lv_at hl 2 rfl) ?_
        obtain ⟨r10, hc11, h⟩ := bd_ex h
        refine sl_V (q0 := 17) (ci := 6) (C := RX6) K (mX6_look l G F rr ff bb dd σrr σbb σdd x1 x2 hc11) tw_3_149 tw_1_8 tw_3_147 tw_3_148 tw_3_146 cdX6_look ⟨Nat.le_of_ble_eq_true rfl, Nat.le_of_ble_eq_true rfl⟩ hP hD hS [4, 1, 2, 3] rfl rfl rfl rfl rfl rfl rfl hl.1 (Nat.le_of_ble_eq_true rfl) ⟨Nat.zero_le _, Nat.zero_le _⟩ dX10_run_45 (fun H locs hP hD hS => ?_)
        have hP : va_P G.1 vwCl (List.flatten [wM mm mm_text mm_reader ff mm_acts (rr 0) mm_sights mm_rows mm_slots, wF ff (bb 0) (dd 0), wB G bb σbb, wD G dd σdd, wR G rr r10]) H := hP
        have hD : va_D A (List.flatten [wM mm mm_text mm_reader ff mm_acts (rr 0) mm_sights mm_rows mm_slots, wF ff (bb 0) (dd 0), wB G bb σbb, wD G dd σdd, wR G rr r10]) := hD
        refine lv_iload_n hx hb dX10_run_48 rfl (lv_at hl 3 rfl) ?_
        refine lv_aload_n hx hb dX10_run_49 rfl (lv_at hl 0 rfl) ?_
        refine va_get (D := G.1) (cl := vwCl) (tys := tysG G) (ci := 10) (v := .ref (rr 0)) (C := RX10) (T := TX10) (N := 8) hx hb hts iX10 hown hG.1 hP 0 rfl rfl 4 (Nat.le_of_ble_eq_true rfl) (hts _ tw_2_45) (fun _ h9 => h9) rfl dX10_run_50 ?_
        refine va_get (D := G.1) (cl := vwCl) (tys := tysG G) (ci := 6) (v := .int (r10.1 3)) (C := RX6) (T := TX6) (N := 4) hx hb hts iX6 hown hG.1 hP 17 rfl rfl 3 (Nat.le_of_ble_eq_true rfl) (hts _ tw_1_196) (fun _ h9 => h9) rfl dX10_run_53 ?_
        obtain ⟨r12, hc13, h⟩ := bd_ex h
        refine sl_S K (mX10_isBelow l G F x3 (r10.1 3) hc13) tw_2_194 tw_1_1 tw_2_193 tw_2_222 cdX10_isBelow ⟨Nat.le_of_ble_eq_true rfl, Nat.le_of_ble_eq_true rfl⟩ hP hD hS [] rfl rfl rfl rfl hl.1 (Nat.le_of_ble_eq_true rfl) ⟨Nat.zero_le _, Nat.zero_le _⟩ dX10_run_56 (fun H locs hP hD hS => ?_)
        have hP : va_P G.1 vwCl (List.flatten [wM mm mm_text mm_reader ff mm_acts (rr 0) mm_sights mm_rows mm_slots, wF ff (bb 0) (dd 0), wB G bb σbb, wD G dd σdd, wR G rr r10]) H := hP
        have hD : va_D A (List.flatten [wM mm mm_text mm_reader ff mm_acts (rr 0) mm_sights mm_rows mm_slots, wF ff (bb 0) (dd 0), wB G bb σbb, wD G dd σdd, wR G rr r10]) := hD
        refine lv_if_ne (tgt := 65) hx hb dX10_run_59 (by decide) (fun c14 => ?_) (fun c14 => ?_)
        · have h := if_f c14 h
          refine lv_iload hx hb dX10_run_65 (lv_at hl 4 rfl) ?_
          refine lv_if_ne (tgt := 80) hx hb dX10_run_67 (by decide) (fun c15 => ?_) (fun c15 => ?_)
          · have h := if_f c15 h
            refine lv_iload hx hb dX10_run_80 (lv_at hl 4 rfl) ?_
            refine lv_iconst (v := 1) hx hb dX10_run_82 li_1 ?_
            refine lv_icmp_ne (tgt := 98) hx hb dX10_run_83 (by decide) (fun c16 => ?_) (fun c16 => ?_)
            · have h := if_f c16 h
              refine lv_aload_n hx hb dX10_run_98 rfl (lv_at hl 0 rfl) ?_
              refine va_get (D := G.1) (cl := vwCl) (tys := tysG G) (ci := 10) (v := .ref (rr 0)) (C := RX10) (T := TX10) (N := 8) hx hb hts iX10 hown hG.1 hP 0 rfl rfl 4 (Nat.le_of_ble_eq_true rfl) (hts _ tw_2_45) (fun _ h9 => h9) rfl dX10_run_99 ?_
              refine va_get (D := G.1) (cl := vwCl) (tys := tysG G) (ci := 6) (v := .ref (rr 3)) (C := RX6) (T := TX6) (N := 4) hx hb hts iX6 hown hG.1 hP 17 rfl rfl 2 (Nat.le_of_ble_eq_true rfl) (hts _ tw_1_194) (fun _ h9 => h9) rfl dX10_run_102 ?_
              refine lv_iload_n hx hb dX10_run_105 rfl (lv_at hl 3 rfl) ?_
              obtain ⟨ck17, h⟩ := ck h
              refine va_iald hx hb hG.1 hP 20 0 rfl rfl ck17 dX10_run_106 ?_
              cases h
              exact rt_i K hP hD hS dX10_run_107
            · have h := if_t c16 h
              refine lv_aload_n hx hb dX10_run_86 rfl (lv_at hl 0 rfl) ?_
              refine va_get (D := G.1) (cl := vwCl) (tys := tysG G) (ci := 10) (v := .ref (rr 0)) (C := RX10) (T := TX10) (N := 8) hx hb hts iX10 hown hG.1 hP 0 rfl rfl 4 (Nat.le_of_ble_eq_true rfl) (hts _ tw_2_45) (fun _ h9 => h9) rfl dX10_run_87 ?_
              refine va_get (D := G.1) (cl := vwCl) (tys := tysG G) (ci := 6) (v := .ref (rr 2)) (C := RX6) (T := TX6) (N := 4) hx hb hts iX6 hown hG.1 hP 17 rfl rfl 1 (Nat.le_of_ble_eq_true rfl) (hts _ tw_1_192) (fun _ h9 => h9) rfl dX10_run_90 ?_
              refine lv_iload_n hx hb dX10_run_93 rfl (lv_at hl 3 rfl) ?_
              obtain ⟨ck18, h⟩ := ck h
              refine va_iald hx hb hG.1 hP 19 0 rfl rfl ck18 dX10_run_94 ?_
              refine lv_goto (tgt := 107) hx hb dX10_run_95 (by decide) ?_
              cases h
              exact rt_i K hP hD hS dX10_run_107
          · have h := if_t c15 h
            refine lv_aload_n hx hb dX10_run_70 rfl (lv_at hl 0 rfl) ?_
            refine va_get (D := G.1) (cl := vwCl) (tys := tysG G) (ci := 10) (v := .ref (rr 0)) (C := RX10) (T := TX10) (N := 8) hx hb hts iX10 hown hG.1 hP 0 rfl rfl 4 (Nat.le_of_ble_eq_true rfl) (hts _ tw_2_45) (fun _ h9 => h9) rfl dX10_run_71 ?_
            refine va_get (D := G.1) (cl := vwCl) (tys := tysG G) (ci := 6) (v := .ref (rr 1)) (C := RX6) (T := TX6) (N := 4) hx hb hts iX6 hown hG.1 hP 17 rfl rfl 0 (Nat.le_of_ble_eq_true rfl) (hts _ tw_1_190) (fun _ h9 => h9) rfl dX10_run_74 ?_
            refine lv_iload_n hx hb dX10_run_77 rfl (lv_at hl 3 rfl) ?_
            obtain ⟨ck19, h⟩ := ck h
            refine va_iald hx hb hG.1 hP 18 0 rfl rfl ck19 dX10_run_78 ?_
            cases h
            exact rt_i K hP hD hS dX10_run_79
        · have h := if_t c14 h
          refine lv_bipush (v := -9) hx hb dX10_run_62 lb_m9 ?_
          cases h
          exact rt_i K hP hD hS dX10_run_64
      · have h := if_t c9 h
        refine lv_bipush (v := -2) hx hb dX10_run_32 lb_m2 ?_
        cases h
        exact rt_i K hP hD hS dX10_run_34
  · have h := if_t c3 h
    refine lv_iconst (v := -1) hx hb dX10_run_14 li_m1 ?_
    cases h
    exact rt_i K hP hD hS dX10_run_15
def fX10_countByRule (F : Nat) (σbb : ST) (σdd : ST) (σrr : ST) (x1 : Int32) (x2 : Int32) : Option (Int32 × ST) :=
  (fX6_look F σrr σbb σdd x1 x2).bind fun r1 =>
  (fX10_lengthOfShadow F (hgtI (0 : Int32).toNatClampNeg) x2).bind fun r3 =>
  (fX6_headsByRule F r1 r3).bind fun r5 =>
  some (r5, r1)
theorem cdX10_countByRule : CallD yX10_countByRule 2 := by decide +kernel
set_option maxHeartbeats 4000000 in
set_option maxRecDepth 100000 in
theorem mX10_countByRule (l : Launch) (G : GP) (F : Nat) (mm : Nat) (ff : Nat) (bb : Nat → Nat) (dd : Nat → Nat) (rr : Nat → Nat) (mm_text : Nat) (mm_reader : Nat) (mm_acts : Nat) (mm_sights : Nat) (mm_rows : Nat) (mm_slots : Nat) (σbb : ST) (σdd : ST) (σrr : ST) (x1 : Int32) (x2 : Int32) {r : Int32 × ST} (h : fX10_countByRule F σbb σdd σrr x1 x2 = some r) : CC l G yX10_countByRule cX10_countByRule 3 (some .int) 6 [.ref mm, .int x1, .int x2] (List.flatten [wM mm mm_text mm_reader ff mm_acts (rr 0) mm_sights mm_rows mm_slots, wF ff (bb 0) (dd 0), wB G bb σbb, wD G dd σdd, wR G rr σrr]) (List.flatten [wM mm mm_text mm_reader ff mm_acts (rr 0) mm_sights mm_rows mm_slots, wF ff (bb 0) (dd 0), wB G bb σbb, wD G dd σdd, wR G rr r.2]) (some (.int r.1)) := by
  refine CC.of (by decide) (Nat.le_of_ble_eq_true rfl) ?_
  intro p e s m below meth c A K hP hD hS ls hl
  obtain ⟨hx, hb, hr, hml, hts, hown, hlocks, hA, hG⟩ := id K
  have hl : lv_has ls 3 [(0, .ref mm), (1, .int x1), (2, .int x2)] := hl
  unfold fX10_countByRule at h
  refine lv_aload_n hx hb dX10_countByRule_0 rfl (lv_at hl 0 rfl) ?_
  refine va_get (D := G.1) (cl := vwCl) (tys := tysG G) (ci := 10) (v := .ref (rr 0)) (C := RX10) (T := TX10) (N := 8) hx hb hts iX10 hown hG.1 hP 0 rfl rfl 4 (Nat.le_of_ble_eq_true rfl) (hts _ tw_2_45) (fun _ h9 => h9) rfl dX10_countByRule_1 ?_
  refine lv_aload_n hx hb dX10_countByRule_4 rfl (lv_at hl 0 rfl) ?_
  refine va_get (D := G.1) (cl := vwCl) (tys := tysG G) (ci := 10) (v := .ref ff) (C := RX10) (T := TX10) (N := 8) hx hb hts iX10 hown hG.1 hP 0 rfl rfl 2 (Nat.le_of_ble_eq_true rfl) (hts _ tw_2_43) (fun _ h9 => h9) rfl dX10_countByRule_5 ?_
  refine lv_iload_n hx hb dX10_countByRule_8 rfl (lv_at hl 1 rfl) ?_
  refine lv_iload_n hx hb dX10_countByRule_9 rfl (lv_at hl 2 rfl) ?_
  obtain ⟨r1, hc2, h⟩ := bd_ex h
  refine sl_V (q0 := 17) (ci := 6) (C := RX6) K (mX6_look l G F rr ff bb dd σrr σbb σdd x1 x2 hc2) tw_3_149 tw_1_8 tw_3_147 tw_3_148 tw_3_146 cdX6_look ⟨Nat.le_of_ble_eq_true rfl, Nat.le_of_ble_eq_true rfl⟩ hP hD hS [4, 1, 2, 3] rfl rfl rfl rfl rfl rfl rfl hl.1 (Nat.le_of_ble_eq_true rfl) ⟨Nat.zero_le _, Nat.zero_le _⟩ dX10_countByRule_10 (fun H locs hP hD hS => ?_)
  have hP : va_P G.1 vwCl (List.flatten [wM mm mm_text mm_reader ff mm_acts (rr 0) mm_sights mm_rows mm_slots, wF ff (bb 0) (dd 0), wB G bb σbb, wD G dd σdd, wR G rr r1]) H := hP
  have hD : va_D A (List.flatten [wM mm mm_text mm_reader ff mm_acts (rr 0) mm_sights mm_rows mm_slots, wF ff (bb 0) (dd 0), wB G bb σbb, wD G dd σdd, wR G rr r1]) := hD
  refine lv_aload_n hx hb dX10_countByRule_13 rfl (lv_at hl 0 rfl) ?_
  refine va_get (D := G.1) (cl := vwCl) (tys := tysG G) (ci := 10) (v := .ref (rr 0)) (C := RX10) (T := TX10) (N := 8) hx hb hts iX10 hown hG.1 hP 0 rfl rfl 4 (Nat.le_of_ble_eq_true rfl) (hts _ tw_2_45) (fun _ h9 => h9) rfl dX10_countByRule_14 ?_
  refine va_gets hx hb hG.2.2.1.1 hS hown (hts _ tw_3_191) (fun _ h9 => h9) dX10_countByRule_17 ?_
  refine lv_iconst (v := 0) hx hb dX10_countByRule_20 li_0 ?_
  refine va_ti (v := .int (hgtI (0 : Int32).toNatClampNeg)) hx hb hG.2.2.1.2 hS (vpi (by decide)) rfl dX10_countByRule_21 ?_
  refine lv_iload_n hx hb dX10_countByRule_22 rfl (lv_at hl 2 rfl) ?_
  obtain ⟨r3, hc4, h⟩ := bd_ex h
  refine sl_S K (mX10_lengthOfShadow l G F (hgtI (0 : Int32).toNatClampNeg) x2 hc4) tw_3_118 tw_1_1 tw_3_117 tw_3_116 cdX10_lengthOfShadow ⟨Nat.le_of_ble_eq_true rfl, Nat.le_of_ble_eq_true rfl⟩ hP hD hS [] rfl rfl rfl rfl hl.1 (Nat.le_of_ble_eq_true rfl) ⟨Nat.zero_le _, Nat.zero_le _⟩ dX10_countByRule_23 (fun H locs hP hD hS => ?_)
  have hP : va_P G.1 vwCl (List.flatten [wM mm mm_text mm_reader ff mm_acts (rr 0) mm_sights mm_rows mm_slots, wF ff (bb 0) (dd 0), wB G bb σbb, wD G dd σdd, wR G rr r1]) H := hP
  have hD : va_D A (List.flatten [wM mm mm_text mm_reader ff mm_acts (rr 0) mm_sights mm_rows mm_slots, wF ff (bb 0) (dd 0), wB G bb σbb, wD G dd σdd, wR G rr r1]) := hD
  obtain ⟨r5, hc6, h⟩ := bd_ex h
  refine sl_V (q0 := 17) (ci := 6) (C := RX6) K (mX6_headsByRule l G F rr r1 r3 hc6) tw_3_195 tw_1_8 tw_3_193 tw_3_194 tw_3_192 cdX6_headsByRule ⟨Nat.le_of_ble_eq_true rfl, Nat.le_of_ble_eq_true rfl⟩ hP hD hS [4] rfl rfl rfl rfl rfl rfl rfl hl.1 (Nat.le_of_ble_eq_true rfl) ⟨Nat.zero_le _, Nat.zero_le _⟩ dX10_countByRule_26 (fun H locs hP hD hS => ?_)
  have hP : va_P G.1 vwCl (List.flatten [wM mm mm_text mm_reader ff mm_acts (rr 0) mm_sights mm_rows mm_slots, wF ff (bb 0) (dd 0), wB G bb σbb, wD G dd σdd, wR G rr r1]) H := hP
  have hD : va_D A (List.flatten [wM mm mm_text mm_reader ff mm_acts (rr 0) mm_sights mm_rows mm_slots, wF ff (bb 0) (dd 0), wB G bb σbb, wD G dd σdd, wR G rr r1]) := hD
  cases h
  exact rt_i K hP hD hS dX10_countByRule_29
def fX10_counted (F : Nat) (σbb : ST) (σdd : ST) (σrr : ST) (x1 : Int32) (x2 : Int32) : Option (Int32 × ST) :=
  (fX4_hasHill F σdd x1).bind fun r1 =>
  if r1 = 0 then
    some ((-1 : Int32), σrr)
  else
    (fX10_isMinute F x2).bind fun r4 =>
    if r4 = 0 then
      some ((-2 : Int32), σrr)
    else
      (fX10_countByRule F σbb σdd σrr x1 x2).bind fun r7 =>
      some (r7.1, r7.2)
theorem cdX10_counted : CallD yX10_counted 2 := by decide +kernel
set_option maxHeartbeats 4000000 in
set_option maxRecDepth 100000 in
theorem mX10_counted (l : Launch) (G : GP) (F : Nat) (mm : Nat) (ff : Nat) (bb : Nat → Nat) (dd : Nat → Nat) (rr : Nat → Nat) (mm_text : Nat) (mm_reader : Nat) (mm_acts : Nat) (mm_sights : Nat) (mm_rows : Nat) (mm_slots : Nat) (σbb : ST) (σdd : ST) (σrr : ST) (x1 : Int32) (x2 : Int32) {r : Int32 × ST} (h : fX10_counted F σbb σdd σrr x1 x2 = some r) : CC l G yX10_counted cX10_counted 3 (some .int) 7 [.ref mm, .int x1, .int x2] (List.flatten [wM mm mm_text mm_reader ff mm_acts (rr 0) mm_sights mm_rows mm_slots, wF ff (bb 0) (dd 0), wB G bb σbb, wD G dd σdd, wR G rr σrr]) (List.flatten [wM mm mm_text mm_reader ff mm_acts (rr 0) mm_sights mm_rows mm_slots, wF ff (bb 0) (dd 0), wB G bb σbb, wD G dd σdd, wR G rr r.2]) (some (.int r.1)) := by
  refine CC.of (by decide) (Nat.le_of_ble_eq_true rfl) ?_
  intro p e s m below meth c A K hP hD hS ls hl
  obtain ⟨hx, hb, hr, hml, hts, hown, hlocks, hA, hG⟩ := id K
  have hl : lv_has ls 3 [(0, .ref mm), (1, .int x1), (2, .int x2)] := hl
  unfold fX10_counted at h
  refine lv_aload_n hx hb dX10_counted_0 rfl (lv_at hl 0 rfl) ?_
  refine va_get (D := G.1) (cl := vwCl) (tys := tysG G) (ci := 10) (v := .ref ff) (C := RX10) (T := TX10) (N := 8) hx hb hts iX10 hown hG.1 hP 0 rfl rfl 2 (Nat.le_of_ble_eq_true rfl) (hts _ tw_2_43) (fun _ h9 => h9) rfl dX10_counted_1 ?_
  refine va_get (D := G.1) (cl := vwCl) (tys := tysG G) (ci := 2) (v := .ref (dd 0)) (C := RX2) (T := TX2) (N := 2) hx hb hts iX2 hown hG.1 hP 1 rfl rfl 1 (Nat.le_of_ble_eq_true rfl) (hts _ tw_1_129) (fun _ h9 => h9) rfl dX10_counted_4 ?_
  refine lv_iload_n hx hb dX10_counted_7 rfl (lv_at hl 1 rfl) ?_
  obtain ⟨r1, hc2, h⟩ := bd_ex h
  refine sl_V (q0 := 6) (ci := 4) (C := RX4) K (mX4_hasHill l G F dd σdd x1 hc2) tw_3_70 tw_1_6 tw_3_68 tw_3_69 tw_3_67 cdX4_hasHill ⟨Nat.le_of_ble_eq_true rfl, Nat.le_of_ble_eq_true rfl⟩ hP hD hS [3] rfl rfl rfl rfl rfl rfl rfl hl.1 (Nat.le_of_ble_eq_true rfl) ⟨Nat.zero_le _, Nat.zero_le _⟩ dX10_counted_8 (fun H locs hP hD hS => ?_)
  have hP : va_P G.1 vwCl (List.flatten [wM mm mm_text mm_reader ff mm_acts (rr 0) mm_sights mm_rows mm_slots, wF ff (bb 0) (dd 0), wB G bb σbb, wD G dd σdd, wR G rr σrr]) H := hP
  have hD : va_D A (List.flatten [wM mm mm_text mm_reader ff mm_acts (rr 0) mm_sights mm_rows mm_slots, wF ff (bb 0) (dd 0), wB G bb σbb, wD G dd σdd, wR G rr σrr]) := hD
  refine lv_if_ne (tgt := 16) hx hb dX10_counted_11 (by decide) (fun c3 => ?_) (fun c3 => ?_)
  · have h := if_f c3 h
    refine lv_iload_n hx hb dX10_counted_16 rfl (lv_at hl 2 rfl) ?_
    obtain ⟨r4, hc5, h⟩ := bd_ex h
    refine sl_S K (mX10_isMinute l G F x2 hc5) tw_2_221 tw_1_1 tw_2_220 tw_3_115 cdX10_isMinute ⟨Nat.le_of_ble_eq_true rfl, Nat.le_of_ble_eq_true rfl⟩ hP hD hS [] rfl rfl rfl rfl hl.1 (Nat.le_of_ble_eq_true rfl) ⟨Nat.zero_le _, Nat.zero_le _⟩ dX10_counted_17 (fun H locs hP hD hS => ?_)
    have hP : va_P G.1 vwCl (List.flatten [wM mm mm_text mm_reader ff mm_acts (rr 0) mm_sights mm_rows mm_slots, wF ff (bb 0) (dd 0), wB G bb σbb, wD G dd σdd, wR G rr σrr]) H := hP
    have hD : va_D A (List.flatten [wM mm mm_text mm_reader ff mm_acts (rr 0) mm_sights mm_rows mm_slots, wF ff (bb 0) (dd 0), wB G bb σbb, wD G dd σdd, wR G rr σrr]) := hD
    refine lv_if_eq (tgt := 32) hx hb dX10_counted_20 (by decide) (fun c6 => ?_) (fun c6 => ?_)
    · have h := if_t c6 h
      refine lv_bipush (v := -2) hx hb dX10_counted_32 lb_m2 ?_
      cases h
      exact rt_i K hP hD hS dX10_counted_34
    · have h := if_f c6 h
      refine lv_aload_n hx hb dX10_counted_23 rfl (lv_at hl 0 rfl) ?_
      refine lv_iload_n hx hb dX10_counted_24 rfl (lv_at hl 1 rfl) ?_
      refine lv_iload_n hx hb dX10_counted_25 rfl (lv_at hl 2 rfl) ?_
      obtain ⟨r7, hc8, h⟩ := bd_ex h
      refine sl_V (q0 := 0) (ci := 10) (C := RX10) K (mX10_countByRule l G F mm ff bb dd rr mm_text mm_reader mm_acts mm_sights mm_rows mm_slots σbb σdd σrr x1 x2 hc8) tw_3_190 tw_1_1 tw_3_189 tw_0_0 tw_3_187 cdX10_countByRule ⟨Nat.le_of_ble_eq_true rfl, Nat.le_of_ble_eq_true rfl⟩ hP hD hS [0, 1, 2, 3, 4] rfl rfl rfl rfl rfl rfl rfl hl.1 (Nat.le_of_ble_eq_true rfl) ⟨Nat.zero_le _, Nat.zero_le _⟩ dX10_counted_26 (fun H locs hP hD hS => ?_)
      have hP : va_P G.1 vwCl (List.flatten [wM mm mm_text mm_reader ff mm_acts (rr 0) mm_sights mm_rows mm_slots, wF ff (bb 0) (dd 0), wB G bb σbb, wD G dd σdd, wR G rr r7.2]) H := hP
      have hD : va_D A (List.flatten [wM mm mm_text mm_reader ff mm_acts (rr 0) mm_sights mm_rows mm_slots, wF ff (bb 0) (dd 0), wB G bb σbb, wD G dd σdd, wR G rr r7.2]) := hD
      refine lv_goto (tgt := 34) hx hb dX10_counted_29 (by decide) ?_
      cases h
      exact rt_i K hP hD hS dX10_counted_34
  · have h := if_t c3 h
    refine lv_iconst (v := -1) hx hb dX10_counted_14 li_m1 ?_
    cases h
    exact rt_i K hP hD hS dX10_counted_15
def gbX10_best_45 (F : Nat) (σbb : ST) (σdd : ST) (v1 : Int32) (v2 : Int32) (rc : Int32 → Int32 → Int32 → ST → Option (Int32 × Int32 × Int32 × ST)) (v3 : Int32) (v4 : Int32) (v5 : Int32) (σrr : ST) : Option (Int32 × Int32 × Int32 × ST) :=
  if (16 : Int32) ≤ v5 then
    some (v3, v4, v5, σrr)
  else
    (fX10_countByRule F σbb σdd σrr v1 v5).bind fun r9 =>
    if v4 ≤ (if 0 ≤ (r9.1 - v2) then (r9.1 - v2) else 0 - (r9.1 - v2)) then
      rc v3 v4 (v5 + 1) r9.2
    else
      rc v5 (if 0 ≤ (r9.1 - v2) then (r9.1 - v2) else 0 - (r9.1 - v2)) (v5 + 1) r9.2
def gX10_best_45 (F : Nat) (σbb : ST) (σdd : ST) (v1 : Int32) (v2 : Int32) : Nat → Int32 → Int32 → Int32 → ST → Option (Int32 × Int32 × Int32 × ST)
  | 0, _, _, _, _ => none
  | n + 1, v3, v4, v5, σrr => gbX10_best_45 F σbb σdd v1 v2 (gX10_best_45 F σbb σdd v1 v2 n) v3 v4 v5 σrr
set_option maxHeartbeats 4000000 in
set_option maxRecDepth 100000 in
theorem kX10_best_45 {p : Program} {l : Launch} {e : Env} {s : State} {m : MethodId} {args : Array Value} {below : List Frame} {meth : Method} {c : Code} {A : Nat → Prop} {Q : State → Prop} {G : GP} (K : Cx p s m meth c G cX10_best RX10 7 (some .int) args A) (F : Nat) (mm : Nat) (ff : Nat) (bb : Nat → Nat) (dd : Nat → Nat) (rr : Nat → Nat) (mm_text : Nat) (mm_reader : Nat) (mm_acts : Nat) (mm_sights : Nat) (mm_rows : Nat) (mm_slots : Nat) (σbb : ST) (σdd : ST) (v1 : Int32) (v2 : Int32) {z : Int32 × Int32 × Int32 × ST} (kk : ∀ (H : Heap) (locs : List Loc) (ls : Array Slot), va_P G.1 vwCl (List.flatten [wM mm mm_text mm_reader ff mm_acts (rr 0) mm_sights mm_rows mm_slots, wF ff (bb 0) (dd 0), wB G bb σbb, wD G dd σdd, wR G rr z.2.2.2]) H → va_D A (List.flatten [wM mm mm_text mm_reader ff mm_acts (rr 0) mm_sights mm_rows mm_slots, wF ff (bb 0) (dd 0), wB G bb σbb, wD G dd σdd, wR G rr z.2.2.2]) → va_S A s.heap H locs → lv_has ls 7 [(0, .ref mm), (1, .int v1), (2, .int v2), (3, .int z.1), (4, .int z.2.1), (5, .int z.2.2.1)] → W p l e (RM 7) s m args below meth c H locs 0 0 Q (F0 m 86 ls [])) :
    ∀ (n : Nat) (v3 : Int32) (v4 : Int32) (v5 : Int32) (σrr : ST) (H : Heap) (locs : List Loc) (ls : Array Slot), va_P G.1 vwCl (List.flatten [wM mm mm_text mm_reader ff mm_acts (rr 0) mm_sights mm_rows mm_slots, wF ff (bb 0) (dd 0), wB G bb σbb, wD G dd σdd, wR G rr σrr]) H → va_D A (List.flatten [wM mm mm_text mm_reader ff mm_acts (rr 0) mm_sights mm_rows mm_slots, wF ff (bb 0) (dd 0), wB G bb σbb, wD G dd σdd, wR G rr σrr]) → va_S A s.heap H locs → lv_has ls 7 [(0, .ref mm), (1, .int v1), (2, .int v2), (3, .int v3), (4, .int v4), (5, .int v5)] → gX10_best_45 F σbb σdd v1 v2 n v3 v4 v5 σrr = some z → W p l e (RM 7) s m args below meth c H locs 0 0 Q (F0 m 45 ls []) := by
  obtain ⟨hx, hb, hr, hml, hts, hown, hlocks, hA, hG⟩ := id K
  intro n
  induction n with
  | zero =>
    intro v3 v4 v5 σrr H locs ls hP hD hS hl h
    have h : none = some z := h
    cases h
  | succ n ih =>
    intro v3 v4 v5 σrr H locs ls hP hD hS hl h
    have h : gbX10_best_45 F σbb σdd v1 v2 (gX10_best_45 F σbb σdd v1 v2 n) v3 v4 v5 σrr = some z := h
    unfold gbX10_best_45 at h
    refine lv_iload hx hb dX10_best_45 (lv_at hl 5 rfl) ?_
    refine lv_bipush (v := 16) hx hb dX10_best_47 lb_16 ?_
    refine lv_icmp_ge (tgt := 86) hx hb dX10_best_49 (by decide) (fun c8 => ?_) (fun c8 => ?_)
    · have h := if_t c8 h
      cases h
      exact kk _ _ _ hP hD hS (lv_sub hl [0, 1, 2, 3, 4, 5] rfl)
    · have h := if_f c8 h
      refine lv_aload_n hx hb dX10_best_52 rfl (lv_at hl 0 rfl) ?_
      refine lv_iload_n hx hb dX10_best_53 rfl (lv_at hl 1 rfl) ?_
      refine lv_iload hx hb dX10_best_54 (lv_at hl 5 rfl) ?_
      obtain ⟨r9, hc10, h⟩ := bd_ex h
      refine sl_V (q0 := 0) (ci := 10) (C := RX10) K (mX10_countByRule l G F mm ff bb dd rr mm_text mm_reader mm_acts mm_sights mm_rows mm_slots σbb σdd σrr v1 v5 hc10) tw_3_190 tw_1_1 tw_3_189 tw_0_0 tw_3_187 cdX10_countByRule ⟨Nat.le_of_ble_eq_true rfl, Nat.le_of_ble_eq_true rfl⟩ hP hD hS [0, 1, 2, 3, 4] rfl rfl rfl rfl rfl rfl rfl hl.1 (Nat.le_of_ble_eq_true rfl) ⟨Nat.zero_le _, Nat.zero_le _⟩ dX10_best_56 (fun H locs hP hD hS => ?_)
      have hP : va_P G.1 vwCl (List.flatten [wM mm mm_text mm_reader ff mm_acts (rr 0) mm_sights mm_rows mm_slots, wF ff (bb 0) (dd 0), wB G bb σbb, wD G dd σdd, wR G rr r9.2]) H := hP
      have hD : va_D A (List.flatten [wM mm mm_text mm_reader ff mm_acts (rr 0) mm_sights mm_rows mm_slots, wF ff (bb 0) (dd 0), wB G bb σbb, wD G dd σdd, wR G rr r9.2]) := hD
      refine lv_iload_n hx hb dX10_best_59 rfl (lv_at hl 2 rfl) ?_
      refine lv_isub hx hb dX10_best_60 ?_
      refine va_mabs hx hb (hml.trans hl.1.symm) hown (hts _ tw_3_89) (hts _ tw_3_90) (hts _ tw_1_15) (hts _ tw_3_91) (Nat.le_of_ble_eq_true rfl) (Nat.le_of_ble_eq_true rfl) (Nat.zero_le _) (Nat.zero_le _) dX10_best_61 ?_
      refine lv_istore (lv' := [(6, .int (if 0 ≤ (r9.1 - v2) then (r9.1 - v2) else 0 - (r9.1 - v2))), (0, .ref mm), (1, .int v1), (2, .int v2), (3, .int v3), (4, .int v4), (5, .int v5)]) hx hb dX10_best_64 hl (Nat.le_of_ble_eq_true rfl) rfl (fun ls hl => ?_)
      refine lv_iload hx hb dX10_best_66 (lv_at hl 0 rfl) ?_
      refine lv_iload hx hb dX10_best_68 (lv_at hl 5 rfl) ?_
      refine lv_icmp_ge (tgt := 80) hx hb dX10_best_70 (by decide) (fun c11 => ?_) (fun c11 => ?_)
      · have h := if_t c11 h
        refine lv_iinc (v := v5 + 1) (lv' := [(5, .int (v5 + 1)), (6, .int (if 0 ≤ (r9.1 - v2) then (r9.1 - v2) else 0 - (r9.1 - v2))), (0, .ref mm), (1, .int v1), (2, .int v2), (3, .int v3), (4, .int v4)]) hx hb dX10_best_80 hl (k := 6) rfl (by rw [li_1]) (Nat.le_of_ble_eq_true rfl) rfl (fun ls hl => ?_)
        refine lv_goto (tgt := 45) hx hb dX10_best_83 (by decide) ?_
        exact ih v3 v4 (v5 + 1) r9.2 _ _ _ hP hD hS (lv_sub hl [2, 3, 4, 5, 6, 0] rfl) h
      · have h := if_f c11 h
        refine lv_iload hx hb dX10_best_73 (lv_at hl 0 rfl) ?_
        refine lv_istore (lv' := [(4, .int (if 0 ≤ (r9.1 - v2) then (r9.1 - v2) else 0 - (r9.1 - v2))), (6, .int (if 0 ≤ (r9.1 - v2) then (r9.1 - v2) else 0 - (r9.1 - v2))), (0, .ref mm), (1, .int v1), (2, .int v2), (3, .int v3), (5, .int v5)]) hx hb dX10_best_75 hl (Nat.le_of_ble_eq_true rfl) rfl (fun ls hl => ?_)
        refine lv_iload hx hb dX10_best_77 (lv_at hl 6 rfl) ?_
        refine lv_istore_n (lv' := [(3, .int v5), (4, .int (if 0 ≤ (r9.1 - v2) then (r9.1 - v2) else 0 - (r9.1 - v2))), (6, .int (if 0 ≤ (r9.1 - v2) then (r9.1 - v2) else 0 - (r9.1 - v2))), (0, .ref mm), (1, .int v1), (2, .int v2), (5, .int v5)]) hx hb dX10_best_79 rfl hl (Nat.le_of_ble_eq_true rfl) rfl (fun ls hl => ?_)
        refine lv_iinc (v := v5 + 1) (lv' := [(5, .int (v5 + 1)), (3, .int v5), (4, .int (if 0 ≤ (r9.1 - v2) then (r9.1 - v2) else 0 - (r9.1 - v2))), (6, .int (if 0 ≤ (r9.1 - v2) then (r9.1 - v2) else 0 - (r9.1 - v2))), (0, .ref mm), (1, .int v1), (2, .int v2)]) hx hb dX10_best_80 hl (k := 6) rfl (by rw [li_1]) (Nat.le_of_ble_eq_true rfl) rfl (fun ls hl => ?_)
        refine lv_goto (tgt := 45) hx hb dX10_best_83 (by decide) ?_
        exact ih v5 (if 0 ≤ (r9.1 - v2) then (r9.1 - v2) else 0 - (r9.1 - v2)) (v5 + 1) r9.2 _ _ _ hP hD hS (lv_sub hl [4, 5, 6, 1, 2, 0] rfl) h
def fX10_best (F : Nat) (σbb : ST) (σdd : ST) (σrr : ST) (x1 : Int32) : Option (Int32 × ST) :=
  (fX4_hasHill F σdd x1).bind fun r1 =>
  if r1 = 0 then
    some ((-1 : Int32), σrr)
  else
    (fX1_allHeads F σbb).bind fun r4 =>
    (fX10_countByRule F σbb σdd σrr x1 (0 : Int32)).bind fun r6 =>
    (gX10_best_45 F σbb σdd x1 r4 F (0 : Int32) (if 0 ≤ (r6.1 - r4) then (r6.1 - r4) else 0 - (r6.1 - r4)) (1 : Int32) r6.2).bind fun z12 =>
      some (z12.1, z12.2.2.2)
theorem cdX10_best : CallD yX10_best 1 := by decide +kernel
set_option maxHeartbeats 4000000 in
set_option maxRecDepth 100000 in
theorem mX10_best (l : Launch) (G : GP) (F : Nat) (mm : Nat) (ff : Nat) (bb : Nat → Nat) (dd : Nat → Nat) (rr : Nat → Nat) (mm_text : Nat) (mm_reader : Nat) (mm_acts : Nat) (mm_sights : Nat) (mm_rows : Nat) (mm_slots : Nat) (σbb : ST) (σdd : ST) (σrr : ST) (x1 : Int32) {r : Int32 × ST} (h : fX10_best F σbb σdd σrr x1 = some r) : CC l G yX10_best cX10_best 7 (some .int) 7 [.ref mm, .int x1] (List.flatten [wM mm mm_text mm_reader ff mm_acts (rr 0) mm_sights mm_rows mm_slots, wF ff (bb 0) (dd 0), wB G bb σbb, wD G dd σdd, wR G rr σrr]) (List.flatten [wM mm mm_text mm_reader ff mm_acts (rr 0) mm_sights mm_rows mm_slots, wF ff (bb 0) (dd 0), wB G bb σbb, wD G dd σdd, wR G rr r.2]) (some (.int r.1)) := by
  refine CC.of (by decide) (Nat.le_of_ble_eq_true rfl) ?_
  intro p e s m below meth c A K hP hD hS ls hl
  obtain ⟨hx, hb, hr, hml, hts, hown, hlocks, hA, hG⟩ := id K
  have hl : lv_has ls 7 [(0, .ref mm), (1, .int x1)] := hl
  unfold fX10_best at h
  refine lv_aload_n hx hb dX10_best_0 rfl (lv_at hl 0 rfl) ?_
  refine va_get (D := G.1) (cl := vwCl) (tys := tysG G) (ci := 10) (v := .ref ff) (C := RX10) (T := TX10) (N := 8) hx hb hts iX10 hown hG.1 hP 0 rfl rfl 2 (Nat.le_of_ble_eq_true rfl) (hts _ tw_2_43) (fun _ h9 => h9) rfl dX10_best_1 ?_
  refine va_get (D := G.1) (cl := vwCl) (tys := tysG G) (ci := 2) (v := .ref (dd 0)) (C := RX2) (T := TX2) (N := 2) hx hb hts iX2 hown hG.1 hP 1 rfl rfl 1 (Nat.le_of_ble_eq_true rfl) (hts _ tw_1_129) (fun _ h9 => h9) rfl dX10_best_4 ?_
  refine lv_iload_n hx hb dX10_best_7 rfl (lv_at hl 1 rfl) ?_
  obtain ⟨r1, hc2, h⟩ := bd_ex h
  refine sl_V (q0 := 6) (ci := 4) (C := RX4) K (mX4_hasHill l G F dd σdd x1 hc2) tw_3_70 tw_1_6 tw_3_68 tw_3_69 tw_3_67 cdX4_hasHill ⟨Nat.le_of_ble_eq_true rfl, Nat.le_of_ble_eq_true rfl⟩ hP hD hS [3] rfl rfl rfl rfl rfl rfl rfl hl.1 (Nat.le_of_ble_eq_true rfl) ⟨Nat.zero_le _, Nat.zero_le _⟩ dX10_best_8 (fun H locs hP hD hS => ?_)
  have hP : va_P G.1 vwCl (List.flatten [wM mm mm_text mm_reader ff mm_acts (rr 0) mm_sights mm_rows mm_slots, wF ff (bb 0) (dd 0), wB G bb σbb, wD G dd σdd, wR G rr σrr]) H := hP
  have hD : va_D A (List.flatten [wM mm mm_text mm_reader ff mm_acts (rr 0) mm_sights mm_rows mm_slots, wF ff (bb 0) (dd 0), wB G bb σbb, wD G dd σdd, wR G rr σrr]) := hD
  refine lv_if_ne (tgt := 16) hx hb dX10_best_11 (by decide) (fun c3 => ?_) (fun c3 => ?_)
  · have h := if_f c3 h
    refine lv_aload_n hx hb dX10_best_16 rfl (lv_at hl 0 rfl) ?_
    refine va_get (D := G.1) (cl := vwCl) (tys := tysG G) (ci := 10) (v := .ref ff) (C := RX10) (T := TX10) (N := 8) hx hb hts iX10 hown hG.1 hP 0 rfl rfl 2 (Nat.le_of_ble_eq_true rfl) (hts _ tw_2_43) (fun _ h9 => h9) rfl dX10_best_17 ?_
    refine va_get (D := G.1) (cl := vwCl) (tys := tysG G) (ci := 2) (v := .ref (bb 0)) (C := RX2) (T := TX2) (N := 2) hx hb hts iX2 hown hG.1 hP 1 rfl rfl 0 (Nat.le_of_ble_eq_true rfl) (hts _ tw_1_125) (fun _ h9 => h9) rfl dX10_best_20 ?_
    obtain ⟨r4, hc5, h⟩ := bd_ex h
    refine sl_V (q0 := 2) (ci := 1) (C := RX1) K (mX1_allHeads l G F bb σbb hc5) tw_3_206 tw_1_5 tw_3_204 tw_3_205 tw_3_203 cdX1_allHeads ⟨Nat.le_of_ble_eq_true rfl, Nat.le_of_ble_eq_true rfl⟩ hP hD hS [2] rfl rfl rfl rfl rfl rfl rfl hl.1 (Nat.le_of_ble_eq_true rfl) ⟨Nat.zero_le _, Nat.zero_le _⟩ dX10_best_23 (fun H locs hP hD hS => ?_)
    have hP : va_P G.1 vwCl (List.flatten [wM mm mm_text mm_reader ff mm_acts (rr 0) mm_sights mm_rows mm_slots, wF ff (bb 0) (dd 0), wB G bb σbb, wD G dd σdd, wR G rr σrr]) H := hP
    have hD : va_D A (List.flatten [wM mm mm_text mm_reader ff mm_acts (rr 0) mm_sights mm_rows mm_slots, wF ff (bb 0) (dd 0), wB G bb σbb, wD G dd σdd, wR G rr σrr]) := hD
    refine lv_istore_n (lv' := [(2, .int r4), (0, .ref mm), (1, .int x1)]) hx hb dX10_best_26 rfl hl (Nat.le_of_ble_eq_true rfl) rfl (fun ls hl => ?_)
    refine lv_iconst (v := 0) hx hb dX10_best_27 li_0 ?_
    refine lv_istore_n (lv' := [(3, .int (0 : Int32)), (2, .int r4), (0, .ref mm), (1, .int x1)]) hx hb dX10_best_28 rfl hl (Nat.le_of_ble_eq_true rfl) rfl (fun ls hl => ?_)
    refine lv_aload_n hx hb dX10_best_29 rfl (lv_at hl 2 rfl) ?_
    refine lv_iload_n hx hb dX10_best_30 rfl (lv_at hl 3 rfl) ?_
    refine lv_iconst (v := 0) hx hb dX10_best_31 li_0 ?_
    obtain ⟨r6, hc7, h⟩ := bd_ex h
    refine sl_V (q0 := 0) (ci := 10) (C := RX10) K (mX10_countByRule l G F mm ff bb dd rr mm_text mm_reader mm_acts mm_sights mm_rows mm_slots σbb σdd σrr x1 (0 : Int32) hc7) tw_3_190 tw_1_1 tw_3_189 tw_0_0 tw_3_187 cdX10_countByRule ⟨Nat.le_of_ble_eq_true rfl, Nat.le_of_ble_eq_true rfl⟩ hP hD hS [0, 1, 2, 3, 4] rfl rfl rfl rfl rfl rfl rfl hl.1 (Nat.le_of_ble_eq_true rfl) ⟨Nat.zero_le _, Nat.zero_le _⟩ dX10_best_32 (fun H locs hP hD hS => ?_)
    have hP : va_P G.1 vwCl (List.flatten [wM mm mm_text mm_reader ff mm_acts (rr 0) mm_sights mm_rows mm_slots, wF ff (bb 0) (dd 0), wB G bb σbb, wD G dd σdd, wR G rr r6.2]) H := hP
    have hD : va_D A (List.flatten [wM mm mm_text mm_reader ff mm_acts (rr 0) mm_sights mm_rows mm_slots, wF ff (bb 0) (dd 0), wB G bb σbb, wD G dd σdd, wR G rr r6.2]) := hD
    refine lv_iload_n hx hb dX10_best_35 rfl (lv_at hl 1 rfl) ?_
    refine lv_isub hx hb dX10_best_36 ?_
    refine va_mabs hx hb (hml.trans hl.1.symm) hown (hts _ tw_3_89) (hts _ tw_3_90) (hts _ tw_1_15) (hts _ tw_3_91) (Nat.le_of_ble_eq_true rfl) (Nat.le_of_ble_eq_true rfl) (Nat.zero_le _) (Nat.zero_le _) dX10_best_37 ?_
    refine lv_istore (lv' := [(4, .int (if 0 ≤ (r6.1 - r4) then (r6.1 - r4) else 0 - (r6.1 - r4))), (3, .int (0 : Int32)), (2, .int r4), (0, .ref mm), (1, .int x1)]) hx hb dX10_best_40 hl (Nat.le_of_ble_eq_true rfl) rfl (fun ls hl => ?_)
    refine lv_iconst (v := 1) hx hb dX10_best_42 li_1 ?_
    refine lv_istore (lv' := [(5, .int (1 : Int32)), (4, .int (if 0 ≤ (r6.1 - r4) then (r6.1 - r4) else 0 - (r6.1 - r4))), (3, .int (0 : Int32)), (2, .int r4), (0, .ref mm), (1, .int x1)]) hx hb dX10_best_43 hl (Nat.le_of_ble_eq_true rfl) rfl (fun ls hl => ?_)
    obtain ⟨z12, hz13, h⟩ := bd_ex h
    refine kX10_best_45 K F mm ff bb dd rr mm_text mm_reader mm_acts mm_sights mm_rows mm_slots σbb σdd x1 r4 (fun H locs ls hP hD hS hl => ?_) F (0 : Int32) (if 0 ≤ (r6.1 - r4) then (r6.1 - r4) else 0 - (r6.1 - r4)) (1 : Int32) r6.2 _ _ _ hP hD hS (lv_sub hl [4, 5, 3, 2, 1, 0] rfl) hz13
    refine lv_iload_n hx hb dX10_best_86 rfl (lv_at hl 3 rfl) ?_
    cases h
    exact rt_i K hP hD hS dX10_best_87
  · have h := if_t c3 h
    refine lv_iconst (v := -1) hx hb dX10_best_14 li_m1 ?_
    cases h
    exact rt_i K hP hD hS dX10_best_15
def fX10_alone (F : Nat) (σbb : ST) (σdd : ST) (x1 : Int32) : Option (Int32) :=
  (fX10_isMinute F x1).bind fun r1 =>
  if r1 = 0 then
    some (-2 : Int32)
  else
    (fX2_lonely F σbb σdd x1).bind fun r4 =>
    some r4
theorem cdX10_alone : CallD yX10_alone 1 := by decide +kernel
set_option maxHeartbeats 4000000 in
set_option maxRecDepth 100000 in
theorem mX10_alone (l : Launch) (G : GP) (F : Nat) (mm : Nat) (ff : Nat) (bb : Nat → Nat) (dd : Nat → Nat) (mm_text : Nat) (mm_reader : Nat) (mm_acts : Nat) (mm_seen : Nat) (mm_sights : Nat) (mm_rows : Nat) (mm_slots : Nat) (σbb : ST) (σdd : ST) (x1 : Int32) {r : Int32} (h : fX10_alone F σbb σdd x1 = some r) : CC l G yX10_alone cX10_alone 2 (some .int) 7 [.ref mm, .int x1] (List.flatten [wM mm mm_text mm_reader ff mm_acts mm_seen mm_sights mm_rows mm_slots, wF ff (bb 0) (dd 0), wB G bb σbb, wD G dd σdd]) (List.flatten [wM mm mm_text mm_reader ff mm_acts mm_seen mm_sights mm_rows mm_slots, wF ff (bb 0) (dd 0), wB G bb σbb, wD G dd σdd]) (some (.int r)) := by
  refine CC.of (by decide) (Nat.le_of_ble_eq_true rfl) ?_
  intro p e s m below meth c A K hP hD hS ls hl
  obtain ⟨hx, hb, hr, hml, hts, hown, hlocks, hA, hG⟩ := id K
  have hl : lv_has ls 2 [(0, .ref mm), (1, .int x1)] := hl
  unfold fX10_alone at h
  refine lv_iload_n hx hb dX10_alone_0 rfl (lv_at hl 1 rfl) ?_
  obtain ⟨r1, hc2, h⟩ := bd_ex h
  refine sl_S K (mX10_isMinute l G F x1 hc2) tw_2_221 tw_1_1 tw_2_220 tw_3_115 cdX10_isMinute ⟨Nat.le_of_ble_eq_true rfl, Nat.le_of_ble_eq_true rfl⟩ hP hD hS [] rfl rfl rfl rfl hl.1 (Nat.le_of_ble_eq_true rfl) ⟨Nat.zero_le _, Nat.zero_le _⟩ dX10_alone_1 (fun H locs hP hD hS => ?_)
  have hP : va_P G.1 vwCl (List.flatten [wM mm mm_text mm_reader ff mm_acts mm_seen mm_sights mm_rows mm_slots, wF ff (bb 0) (dd 0), wB G bb σbb, wD G dd σdd]) H := hP
  have hD : va_D A (List.flatten [wM mm mm_text mm_reader ff mm_acts mm_seen mm_sights mm_rows mm_slots, wF ff (bb 0) (dd 0), wB G bb σbb, wD G dd σdd]) := hD
  refine lv_if_eq (tgt := 18) hx hb dX10_alone_4 (by decide) (fun c3 => ?_) (fun c3 => ?_)
  · have h := if_t c3 h
    refine lv_bipush (v := -2) hx hb dX10_alone_18 lb_m2 ?_
    cases h
    exact rt_i K hP hD hS dX10_alone_20
  · have h := if_f c3 h
    refine lv_aload_n hx hb dX10_alone_7 rfl (lv_at hl 0 rfl) ?_
    refine va_get (D := G.1) (cl := vwCl) (tys := tysG G) (ci := 10) (v := .ref ff) (C := RX10) (T := TX10) (N := 8) hx hb hts iX10 hown hG.1 hP 0 rfl rfl 2 (Nat.le_of_ble_eq_true rfl) (hts _ tw_2_43) (fun _ h9 => h9) rfl dX10_alone_8 ?_
    refine lv_iload_n hx hb dX10_alone_11 rfl (lv_at hl 1 rfl) ?_
    obtain ⟨r4, hc5, h⟩ := bd_ex h
    refine sl_V (q0 := 1) (ci := 2) (C := RX2) K (mX2_lonely l G F ff bb dd σbb σdd x1 hc5) tw_3_174 tw_1_4 tw_3_172 tw_3_173 tw_3_171 cdX2_lonely ⟨Nat.le_of_ble_eq_true rfl, Nat.le_of_ble_eq_true rfl⟩ hP hD hS [1, 2, 3] rfl rfl rfl rfl rfl rfl rfl hl.1 (Nat.le_of_ble_eq_true rfl) ⟨Nat.zero_le _, Nat.zero_le _⟩ dX10_alone_12 (fun H locs hP hD hS => ?_)
    have hP : va_P G.1 vwCl (List.flatten [wM mm mm_text mm_reader ff mm_acts mm_seen mm_sights mm_rows mm_slots, wF ff (bb 0) (dd 0), wB G bb σbb, wD G dd σdd]) H := hP
    have hD : va_D A (List.flatten [wM mm mm_text mm_reader ff mm_acts mm_seen mm_sights mm_rows mm_slots, wF ff (bb 0) (dd 0), wB G bb σbb, wD G dd σdd]) := hD
    refine lv_goto (tgt := 20) hx hb dX10_alone_15 (by decide) ?_
    cases h
    exact rt_i K hP hD hS dX10_alone_20
def fX10_hide (F : Nat) (σbb : ST) (σdd : ST) (x1 : Int32) : Option (Int32) :=
  (fX10_isMinute F x1).bind fun r1 =>
  if r1 = 0 then
    some (-2 : Int32)
  else
    (fX2_hiddenCell F σbb σdd x1).bind fun r4 =>
    some r4
theorem cdX10_hide : CallD yX10_hide 1 := by decide +kernel
set_option maxHeartbeats 4000000 in
set_option maxRecDepth 100000 in
theorem mX10_hide (l : Launch) (G : GP) (F : Nat) (mm : Nat) (ff : Nat) (bb : Nat → Nat) (dd : Nat → Nat) (mm_text : Nat) (mm_reader : Nat) (mm_acts : Nat) (mm_seen : Nat) (mm_sights : Nat) (mm_rows : Nat) (mm_slots : Nat) (σbb : ST) (σdd : ST) (x1 : Int32) {r : Int32} (h : fX10_hide F σbb σdd x1 = some r) : CC l G yX10_hide cX10_hide 2 (some .int) 6 [.ref mm, .int x1] (List.flatten [wM mm mm_text mm_reader ff mm_acts mm_seen mm_sights mm_rows mm_slots, wF ff (bb 0) (dd 0), wB G bb σbb, wD G dd σdd]) (List.flatten [wM mm mm_text mm_reader ff mm_acts mm_seen mm_sights mm_rows mm_slots, wF ff (bb 0) (dd 0), wB G bb σbb, wD G dd σdd]) (some (.int r)) := by
  refine CC.of (by decide) (Nat.le_of_ble_eq_true rfl) ?_
  intro p e s m below meth c A K hP hD hS ls hl
  obtain ⟨hx, hb, hr, hml, hts, hown, hlocks, hA, hG⟩ := id K
  have hl : lv_has ls 2 [(0, .ref mm), (1, .int x1)] := hl
  unfold fX10_hide at h
  refine lv_iload_n hx hb dX10_hide_0 rfl (lv_at hl 1 rfl) ?_
  obtain ⟨r1, hc2, h⟩ := bd_ex h
  refine sl_S K (mX10_isMinute l G F x1 hc2) tw_2_221 tw_1_1 tw_2_220 tw_3_115 cdX10_isMinute ⟨Nat.le_of_ble_eq_true rfl, Nat.le_of_ble_eq_true rfl⟩ hP hD hS [] rfl rfl rfl rfl hl.1 (Nat.le_of_ble_eq_true rfl) ⟨Nat.zero_le _, Nat.zero_le _⟩ dX10_hide_1 (fun H locs hP hD hS => ?_)
  have hP : va_P G.1 vwCl (List.flatten [wM mm mm_text mm_reader ff mm_acts mm_seen mm_sights mm_rows mm_slots, wF ff (bb 0) (dd 0), wB G bb σbb, wD G dd σdd]) H := hP
  have hD : va_D A (List.flatten [wM mm mm_text mm_reader ff mm_acts mm_seen mm_sights mm_rows mm_slots, wF ff (bb 0) (dd 0), wB G bb σbb, wD G dd σdd]) := hD
  refine lv_if_eq (tgt := 18) hx hb dX10_hide_4 (by decide) (fun c3 => ?_) (fun c3 => ?_)
  · have h := if_t c3 h
    refine lv_bipush (v := -2) hx hb dX10_hide_18 lb_m2 ?_
    cases h
    exact rt_i K hP hD hS dX10_hide_20
  · have h := if_f c3 h
    refine lv_aload_n hx hb dX10_hide_7 rfl (lv_at hl 0 rfl) ?_
    refine va_get (D := G.1) (cl := vwCl) (tys := tysG G) (ci := 10) (v := .ref ff) (C := RX10) (T := TX10) (N := 8) hx hb hts iX10 hown hG.1 hP 0 rfl rfl 2 (Nat.le_of_ble_eq_true rfl) (hts _ tw_2_43) (fun _ h9 => h9) rfl dX10_hide_8 ?_
    refine lv_iload_n hx hb dX10_hide_11 rfl (lv_at hl 1 rfl) ?_
    obtain ⟨r4, hc5, h⟩ := bd_ex h
    refine sl_V (q0 := 1) (ci := 2) (C := RX2) K (mX2_hiddenCell l G F ff bb dd σbb σdd x1 hc5) tw_3_215 tw_1_4 tw_3_213 tw_3_214 tw_3_212 cdX2_hiddenCell ⟨Nat.le_of_ble_eq_true rfl, Nat.le_of_ble_eq_true rfl⟩ hP hD hS [1, 2, 3] rfl rfl rfl rfl rfl rfl rfl hl.1 (Nat.le_of_ble_eq_true rfl) ⟨Nat.zero_le _, Nat.zero_le _⟩ dX10_hide_12 (fun H locs hP hD hS => ?_)
    have hP : va_P G.1 vwCl (List.flatten [wM mm mm_text mm_reader ff mm_acts mm_seen mm_sights mm_rows mm_slots, wF ff (bb 0) (dd 0), wB G bb σbb, wD G dd σdd]) H := hP
    have hD : va_D A (List.flatten [wM mm mm_text mm_reader ff mm_acts mm_seen mm_sights mm_rows mm_slots, wF ff (bb 0) (dd 0), wB G bb σbb, wD G dd σdd]) := hD
    refine lv_goto (tgt := 20) hx hb dX10_hide_15 (by decide) ?_
    cases h
    exact rt_i K hP hD hS dX10_hide_20
def fX10_sight (F : Nat) (σss : ST) (x1 : Int32) (x2 : Int32) : Option (Int32 × ST) :=
  (fX10_isMinute F x1).bind fun r1 =>
  if r1 = 0 then
    some ((-2 : Int32), σss)
  else
    (fX10_isBelow F x2 (1024 : Int32)).bind fun r4 =>
    if r4 = 0 then
      some ((-2 : Int32), σss)
    else
      if (σss.1 2) < (6 : Int32) then
        (fX7_add F σss x1 x2).bind fun r8 =>
        some (r8.1 2, r8)
      else
        some ((-4 : Int32), σss)
theorem cdX10_sight : CallD yX10_sight 2 := by decide +kernel
set_option maxHeartbeats 4000000 in
set_option maxRecDepth 100000 in
theorem mX10_sight (l : Launch) (G : GP) (F : Nat) (mm : Nat) (ss : Nat → Nat) (mm_text : Nat) (mm_reader : Nat) (mm_field : Nat) (mm_acts : Nat) (mm_seen : Nat) (mm_rows : Nat) (mm_slots : Nat) (σss : ST) (x1 : Int32) (x2 : Int32) {r : Int32 × ST} (h : fX10_sight F σss x1 x2 = some r) : CC l G yX10_sight cX10_sight 3 (some .int) 3 [.ref mm, .int x1, .int x2] (List.flatten [wM mm mm_text mm_reader mm_field mm_acts mm_seen (ss 0) mm_rows mm_slots, wS G ss σss]) (List.flatten [wM mm mm_text mm_reader mm_field mm_acts mm_seen (ss 0) mm_rows mm_slots, wS G ss r.2]) (some (.int r.1)) := by
  refine CC.of (by decide) (Nat.le_of_ble_eq_true rfl) ?_
  intro p e s m below meth c A K hP hD hS ls hl
  obtain ⟨hx, hb, hr, hml, hts, hown, hlocks, hA, hG⟩ := id K
  have hl : lv_has ls 3 [(0, .ref mm), (1, .int x1), (2, .int x2)] := hl
  unfold fX10_sight at h
  refine lv_iload_n hx hb dX10_sight_0 rfl (lv_at hl 1 rfl) ?_
  obtain ⟨r1, hc2, h⟩ := bd_ex h
  refine sl_S K (mX10_isMinute l G F x1 hc2) tw_2_221 tw_1_1 tw_2_220 tw_3_115 cdX10_isMinute ⟨Nat.le_of_ble_eq_true rfl, Nat.le_of_ble_eq_true rfl⟩ hP hD hS [] rfl rfl rfl rfl hl.1 (Nat.le_of_ble_eq_true rfl) ⟨Nat.zero_le _, Nat.zero_le _⟩ dX10_sight_1 (fun H locs hP hD hS => ?_)
  have hP : va_P G.1 vwCl (List.flatten [wM mm mm_text mm_reader mm_field mm_acts mm_seen (ss 0) mm_rows mm_slots, wS G ss σss]) H := hP
  have hD : va_D A (List.flatten [wM mm mm_text mm_reader mm_field mm_acts mm_seen (ss 0) mm_rows mm_slots, wS G ss σss]) := hD
  refine lv_if_eq (tgt := 17) hx hb dX10_sight_4 (by decide) (fun c3 => ?_) (fun c3 => ?_)
  · have h := if_t c3 h
    refine lv_bipush (v := -2) hx hb dX10_sight_17 lb_m2 ?_
    cases h
    exact rt_i K hP hD hS dX10_sight_19
  · have h := if_f c3 h
    refine lv_iload_n hx hb dX10_sight_7 rfl (lv_at hl 2 rfl) ?_
    refine lv_sipush (v := 1024) hx hb dX10_sight_8 lh_1024 ?_
    obtain ⟨r4, hc5, h⟩ := bd_ex h
    refine sl_S K (mX10_isBelow l G F x2 (1024 : Int32) hc5) tw_2_194 tw_1_1 tw_2_193 tw_2_222 cdX10_isBelow ⟨Nat.le_of_ble_eq_true rfl, Nat.le_of_ble_eq_true rfl⟩ hP hD hS [] rfl rfl rfl rfl hl.1 (Nat.le_of_ble_eq_true rfl) ⟨Nat.zero_le _, Nat.zero_le _⟩ dX10_sight_11 (fun H locs hP hD hS => ?_)
    have hP : va_P G.1 vwCl (List.flatten [wM mm mm_text mm_reader mm_field mm_acts mm_seen (ss 0) mm_rows mm_slots, wS G ss σss]) H := hP
    have hD : va_D A (List.flatten [wM mm mm_text mm_reader mm_field mm_acts mm_seen (ss 0) mm_rows mm_slots, wS G ss σss]) := hD
    refine lv_if_ne (tgt := 20) hx hb dX10_sight_14 (by decide) (fun c6 => ?_) (fun c6 => ?_)
    · have h := if_f c6 h
      refine lv_aload_n hx hb dX10_sight_20 rfl (lv_at hl 0 rfl) ?_
      refine va_get (D := G.1) (cl := vwCl) (tys := tysG G) (ci := 10) (v := .ref (ss 0)) (C := RX10) (T := TX10) (N := 8) hx hb hts iX10 hown hG.1 hP 0 rfl rfl 5 (Nat.le_of_ble_eq_true rfl) (hts _ tw_2_46) (fun _ h9 => h9) rfl dX10_sight_21 ?_
      refine va_get (D := G.1) (cl := vwCl) (tys := tysG G) (ci := 7) (v := .int (σss.1 2)) (C := RX7) (T := TX7) (N := 3) hx hb hts iX7 hown hG.1 hP 1 rfl rfl 2 (Nat.le_of_ble_eq_true rfl) (hts _ tw_1_218) (fun _ h9 => h9) rfl dX10_sight_24 ?_
      refine lv_bipush (v := 6) hx hb dX10_sight_27 lb_6 ?_
      refine lv_icmp_lt (tgt := 35) hx hb dX10_sight_29 (by decide) (fun c7 => ?_) (fun c7 => ?_)
      · have h := if_t c7 h
        refine lv_aload_n hx hb dX10_sight_35 rfl (lv_at hl 0 rfl) ?_
        refine va_get (D := G.1) (cl := vwCl) (tys := tysG G) (ci := 10) (v := .ref (ss 0)) (C := RX10) (T := TX10) (N := 8) hx hb hts iX10 hown hG.1 hP 0 rfl rfl 5 (Nat.le_of_ble_eq_true rfl) (hts _ tw_2_46) (fun _ h9 => h9) rfl dX10_sight_36 ?_
        refine lv_iload_n hx hb dX10_sight_39 rfl (lv_at hl 1 rfl) ?_
        refine lv_iload_n hx hb dX10_sight_40 rfl (lv_at hl 2 rfl) ?_
        obtain ⟨r8, hc9, h⟩ := bd_ex h
        refine sl_V (q0 := 1) (ci := 7) (C := RX7) K (mX7_add l G F ss σss x1 x2 hc9) tw_3_231 tw_1_9 tw_3_229 tw_3_230 tw_3_228 cdX7_add ⟨Nat.le_of_ble_eq_true rfl, Nat.le_of_ble_eq_true rfl⟩ hP hD hS [1] rfl rfl rfl rfl rfl rfl rfl hl.1 (Nat.le_of_ble_eq_true rfl) ⟨Nat.zero_le _, Nat.zero_le _⟩ dX10_sight_41 (fun H locs hP hD hS => ?_)
        have hP : va_P G.1 vwCl (List.flatten [wM mm mm_text mm_reader mm_field mm_acts mm_seen (ss 0) mm_rows mm_slots, wS G ss r8]) H := hP
        have hD : va_D A (List.flatten [wM mm mm_text mm_reader mm_field mm_acts mm_seen (ss 0) mm_rows mm_slots, wS G ss r8]) := hD
        refine lv_aload_n hx hb dX10_sight_44 rfl (lv_at hl 0 rfl) ?_
        refine va_get (D := G.1) (cl := vwCl) (tys := tysG G) (ci := 10) (v := .ref (ss 0)) (C := RX10) (T := TX10) (N := 8) hx hb hts iX10 hown hG.1 hP 0 rfl rfl 5 (Nat.le_of_ble_eq_true rfl) (hts _ tw_2_46) (fun _ h9 => h9) rfl dX10_sight_45 ?_
        refine va_get (D := G.1) (cl := vwCl) (tys := tysG G) (ci := 7) (v := .int (r8.1 2)) (C := RX7) (T := TX7) (N := 3) hx hb hts iX7 hown hG.1 hP 1 rfl rfl 2 (Nat.le_of_ble_eq_true rfl) (hts _ tw_1_218) (fun _ h9 => h9) rfl dX10_sight_48 ?_
        cases h
        exact rt_i K hP hD hS dX10_sight_51
      · have h := if_f c7 h
        refine lv_bipush (v := -4) hx hb dX10_sight_32 lb_m4 ?_
        cases h
        exact rt_i K hP hD hS dX10_sight_34
    · have h := if_t c6 h
      refine lv_bipush (v := -2) hx hb dX10_sight_17 lb_m2 ?_
      cases h
      exact rt_i K hP hD hS dX10_sight_19
def fX10_unsee (F : Nat) (σss : ST)  : Option (Int32 × ST) :=
  nm (sI σss 2 (0 : Int32)) fun (s1 : ST) =>
  some (σss.1 2, s1)
theorem cdX10_unsee : CallD yX10_unsee 0 := by decide +kernel
set_option maxHeartbeats 4000000 in
set_option maxRecDepth 100000 in
theorem mX10_unsee (l : Launch) (G : GP) (F : Nat) (mm : Nat) (ss : Nat → Nat) (mm_text : Nat) (mm_reader : Nat) (mm_field : Nat) (mm_acts : Nat) (mm_seen : Nat) (mm_rows : Nat) (mm_slots : Nat) (σss : ST)  {r : Int32 × ST} (h : fX10_unsee F σss  = some r) : CC l G yX10_unsee cX10_unsee 2 (some .int) 1 [.ref mm] (List.flatten [wM mm mm_text mm_reader mm_field mm_acts mm_seen (ss 0) mm_rows mm_slots, wS G ss σss]) (List.flatten [wM mm mm_text mm_reader mm_field mm_acts mm_seen (ss 0) mm_rows mm_slots, wS G ss r.2]) (some (.int r.1)) := by
  refine CC.of (by decide) (Nat.le_of_ble_eq_true rfl) ?_
  intro p e s m below meth c A K hP hD hS ls hl
  obtain ⟨hx, hb, hr, hml, hts, hown, hlocks, hA, hG⟩ := id K
  have hl : lv_has ls 2 [(0, .ref mm)] := hl
  unfold fX10_unsee at h
  refine lv_aload_n hx hb dX10_unsee_0 rfl (lv_at hl 0 rfl) ?_
  refine va_get (D := G.1) (cl := vwCl) (tys := tysG G) (ci := 10) (v := .ref (ss 0)) (C := RX10) (T := TX10) (N := 8) hx hb hts iX10 hown hG.1 hP 0 rfl rfl 5 (Nat.le_of_ble_eq_true rfl) (hts _ tw_2_46) (fun _ h9 => h9) rfl dX10_unsee_1 ?_
  refine va_get (D := G.1) (cl := vwCl) (tys := tysG G) (ci := 7) (v := .int (σss.1 2)) (C := RX7) (T := TX7) (N := 3) hx hb hts iX7 hown hG.1 hP 1 rfl rfl 2 (Nat.le_of_ble_eq_true rfl) (hts _ tw_1_218) (fun _ h9 => h9) rfl dX10_unsee_4 ?_
  refine lv_istore_n (lv' := [(1, .int (σss.1 2)), (0, .ref mm)]) hx hb dX10_unsee_7 rfl hl (Nat.le_of_ble_eq_true rfl) rfl (fun ls hl => ?_)
  refine lv_aload_n hx hb dX10_unsee_8 rfl (lv_at hl 1 rfl) ?_
  refine va_get (D := G.1) (cl := vwCl) (tys := tysG G) (ci := 10) (v := .ref (ss 0)) (C := RX10) (T := TX10) (N := 8) hx hb hts iX10 hown hG.1 hP 0 rfl rfl 5 (Nat.le_of_ble_eq_true rfl) (hts _ tw_2_46) (fun _ h9 => h9) rfl dX10_unsee_9 ?_
  refine lv_iconst (v := 0) hx hb dX10_unsee_12 li_0 ?_
  obtain ⟨s1, e2, h⟩ := nm_ex h
  refine va_put (D := G.1) (cl := vwCl) (tys := tysG G) (ci := 7) (v := .int (0 : Int32)) (ty := .int) (C := RX7) (T := TX7) (N := 3) hx hb hts iX7 tyX7 tyX7_ok nmX7 hown hG.1 hP hD hS 1 rfl rfl 2 (Nat.le_of_ble_eq_true rfl) (hts _ tw_1_218) (fun _ h9 => h9) rfl (by decide +kernel) rfl rfl (Nat.le_of_ble_eq_true rfl) dX10_unsee_13 (fun H locs hP hD hS => ?_)
  have hP : va_P G.1 vwCl (List.flatten [wM mm mm_text mm_reader mm_field mm_acts mm_seen (ss 0) mm_rows mm_slots, wS G ss s1]) H := by rw [e2]; exact hP
  have hD : va_D A (List.flatten [wM mm mm_text mm_reader mm_field mm_acts mm_seen (ss 0) mm_rows mm_slots, wS G ss s1]) := by rw [e2]; exact hD
  refine lv_iload_n hx hb dX10_unsee_16 rfl (lv_at hl 0 rfl) ?_
  cases h
  exact rt_i K hP hD hS dX10_unsee_17
def fX10_fits (F : Nat) (σss : ST) (σpp : ST)  : Option (Int32 × ST) :=
  (fX3_prepare F σpp σss).bind fun r1 =>
  (fX3_number F r1).bind fun r3 =>
  some (r3, r1)
theorem cdX10_fits : CallD yX10_fits 0 := by decide +kernel
set_option maxHeartbeats 4000000 in
set_option maxRecDepth 100000 in
theorem mX10_fits (l : Launch) (G : GP) (F : Nat) (mm : Nat) (ss : Nat → Nat) (pp : Nat → Nat) (mm_text : Nat) (mm_reader : Nat) (mm_field : Nat) (mm_acts : Nat) (mm_seen : Nat) (mm_slots : Nat) (σss : ST) (σpp : ST)  {r : Int32 × ST} (h : fX10_fits F σss σpp  = some r) : CC l G yX10_fits cX10_fits 1 (some .int) 18 [.ref mm] (List.flatten [wM mm mm_text mm_reader mm_field mm_acts mm_seen (ss 0) (pp 0) mm_slots, wS G ss σss, wP G pp σpp]) (List.flatten [wM mm mm_text mm_reader mm_field mm_acts mm_seen (ss 0) (pp 0) mm_slots, wS G ss σss, wP G pp r.2]) (some (.int r.1)) := by
  refine CC.of (by decide) (Nat.le_of_ble_eq_true rfl) ?_
  intro p e s m below meth c A K hP hD hS ls hl
  obtain ⟨hx, hb, hr, hml, hts, hown, hlocks, hA, hG⟩ := id K
  have hl : lv_has ls 1 [(0, .ref mm)] := hl
  unfold fX10_fits at h
  refine lv_aload_n hx hb dX10_fits_0 rfl (lv_at hl 0 rfl) ?_
  refine va_get (D := G.1) (cl := vwCl) (tys := tysG G) (ci := 10) (v := .ref (pp 0)) (C := RX10) (T := TX10) (N := 8) hx hb hts iX10 hown hG.1 hP 0 rfl rfl 6 (Nat.le_of_ble_eq_true rfl) (hts _ tw_2_47) (fun _ h9 => h9) rfl dX10_fits_1 ?_
  refine lv_aload_n hx hb dX10_fits_4 rfl (lv_at hl 0 rfl) ?_
  refine va_get (D := G.1) (cl := vwCl) (tys := tysG G) (ci := 10) (v := .ref (ss 0)) (C := RX10) (T := TX10) (N := 8) hx hb hts iX10 hown hG.1 hP 0 rfl rfl 5 (Nat.le_of_ble_eq_true rfl) (hts _ tw_2_46) (fun _ h9 => h9) rfl dX10_fits_5 ?_
  obtain ⟨r1, hc2, h⟩ := bd_ex h
  refine sl_V (q0 := 4) (ci := 3) (C := RX3) K (mX3_prepare l G F pp ss σpp σss hc2) tw_4_3 tw_1_10 tw_4_1 tw_4_2 tw_4_0 cdX3_prepare ⟨Nat.le_of_ble_eq_true rfl, Nat.le_of_ble_eq_true rfl⟩ hP hD hS [2, 1] rfl rfl rfl rfl rfl rfl rfl hl.1 (Nat.le_of_ble_eq_true rfl) ⟨Nat.zero_le _, Nat.zero_le _⟩ dX10_fits_8 (fun H locs hP hD hS => ?_)
  have hP : va_P G.1 vwCl (List.flatten [wM mm mm_text mm_reader mm_field mm_acts mm_seen (ss 0) (pp 0) mm_slots, wS G ss σss, wP G pp r1]) H := hP
  have hD : va_D A (List.flatten [wM mm mm_text mm_reader mm_field mm_acts mm_seen (ss 0) (pp 0) mm_slots, wS G ss σss, wP G pp r1]) := hD
  refine lv_aload_n hx hb dX10_fits_11 rfl (lv_at hl 0 rfl) ?_
  refine va_get (D := G.1) (cl := vwCl) (tys := tysG G) (ci := 10) (v := .ref (pp 0)) (C := RX10) (T := TX10) (N := 8) hx hb hts iX10 hown hG.1 hP 0 rfl rfl 6 (Nat.le_of_ble_eq_true rfl) (hts _ tw_2_47) (fun _ h9 => h9) rfl dX10_fits_12 ?_
  obtain ⟨r3, hc4, h⟩ := bd_ex h
  refine sl_V (q0 := 4) (ci := 3) (C := RX3) K (mX3_number l G F pp r1 hc4) tw_4_21 tw_1_10 tw_4_19 tw_4_20 tw_4_18 cdX3_number ⟨Nat.le_of_ble_eq_true rfl, Nat.le_of_ble_eq_true rfl⟩ hP hD hS [2] rfl rfl rfl rfl rfl rfl rfl hl.1 (Nat.le_of_ble_eq_true rfl) ⟨Nat.zero_le _, Nat.zero_le _⟩ dX10_fits_15 (fun H locs hP hD hS => ?_)
  have hP : va_P G.1 vwCl (List.flatten [wM mm mm_text mm_reader mm_field mm_acts mm_seen (ss 0) (pp 0) mm_slots, wS G ss σss, wP G pp r1]) H := hP
  have hD : va_D A (List.flatten [wM mm mm_text mm_reader mm_field mm_acts mm_seen (ss 0) (pp 0) mm_slots, wS G ss σss, wP G pp r1]) := hD
  cases h
  exact rt_i K hP hD hS dX10_fits_18
def fX10_people (F : Nat) (σss : ST) (σpp : ST) (x1 : Int32) : Option (Int32 × ST) :=
  (fX3_prepare F σpp σss).bind fun r1 =>
  (fX3_exist F r1).bind fun r3 =>
  if r3 = 0 then
    some ((-9 : Int32), r1)
  else
    if x1 = 0 then
      (fX3_fewestHeads F r1).bind fun r7 =>
      some (r7, r1)
    else
      (fX3_mostHeads F r1).bind fun r9 =>
      some (r9, r1)
theorem cdX10_people : CallD yX10_people 1 := by decide +kernel
set_option maxHeartbeats 4000000 in
set_option maxRecDepth 100000 in
theorem mX10_people (l : Launch) (G : GP) (F : Nat) (mm : Nat) (ss : Nat → Nat) (pp : Nat → Nat) (mm_text : Nat) (mm_reader : Nat) (mm_field : Nat) (mm_acts : Nat) (mm_seen : Nat) (mm_slots : Nat) (σss : ST) (σpp : ST) (x1 : Int32) {r : Int32 × ST} (h : fX10_people F σss σpp x1 = some r) : CC l G yX10_people cX10_people 2 (some .int) 18 [.ref mm, .int x1] (List.flatten [wM mm mm_text mm_reader mm_field mm_acts mm_seen (ss 0) (pp 0) mm_slots, wS G ss σss, wP G pp σpp]) (List.flatten [wM mm mm_text mm_reader mm_field mm_acts mm_seen (ss 0) (pp 0) mm_slots, wS G ss σss, wP G pp r.2]) (some (.int r.1)) := by
  refine CC.of (by decide) (Nat.le_of_ble_eq_true rfl) ?_
  intro p e s m below meth c A K hP hD hS ls hl
  obtain ⟨hx, hb, hr, hml, hts, hown, hlocks, hA, hG⟩ := id K
  have hl : lv_has ls 2 [(0, .ref mm), (1, .int x1)] := hl
  unfold fX10_people at h
  refine lv_aload_n hx hb dX10_people_0 rfl (lv_at hl 0 rfl) ?_
  refine va_get (D := G.1) (cl := vwCl) (tys := tysG G) (ci := 10) (v := .ref (pp 0)) (C := RX10) (T := TX10) (N := 8) hx hb hts iX10 hown hG.1 hP 0 rfl rfl 6 (Nat.le_of_ble_eq_true rfl) (hts _ tw_2_47) (fun _ h9 => h9) rfl dX10_people_1 ?_
  refine lv_aload_n hx hb dX10_people_4 rfl (lv_at hl 0 rfl) ?_
  refine va_get (D := G.1) (cl := vwCl) (tys := tysG G) (ci := 10) (v := .ref (ss 0)) (C := RX10) (T := TX10) (N := 8) hx hb hts iX10 hown hG.1 hP 0 rfl rfl 5 (Nat.le_of_ble_eq_true rfl) (hts _ tw_2_46) (fun _ h9 => h9) rfl dX10_people_5 ?_
  obtain ⟨r1, hc2, h⟩ := bd_ex h
  refine sl_V (q0 := 4) (ci := 3) (C := RX3) K (mX3_prepare l G F pp ss σpp σss hc2) tw_4_3 tw_1_10 tw_4_1 tw_4_2 tw_4_0 cdX3_prepare ⟨Nat.le_of_ble_eq_true rfl, Nat.le_of_ble_eq_true rfl⟩ hP hD hS [2, 1] rfl rfl rfl rfl rfl rfl rfl hl.1 (Nat.le_of_ble_eq_true rfl) ⟨Nat.zero_le _, Nat.zero_le _⟩ dX10_people_8 (fun H locs hP hD hS => ?_)
  have hP : va_P G.1 vwCl (List.flatten [wM mm mm_text mm_reader mm_field mm_acts mm_seen (ss 0) (pp 0) mm_slots, wS G ss σss, wP G pp r1]) H := hP
  have hD : va_D A (List.flatten [wM mm mm_text mm_reader mm_field mm_acts mm_seen (ss 0) (pp 0) mm_slots, wS G ss σss, wP G pp r1]) := hD
  refine lv_aload_n hx hb dX10_people_11 rfl (lv_at hl 0 rfl) ?_
  refine va_get (D := G.1) (cl := vwCl) (tys := tysG G) (ci := 10) (v := .ref (pp 0)) (C := RX10) (T := TX10) (N := 8) hx hb hts iX10 hown hG.1 hP 0 rfl rfl 6 (Nat.le_of_ble_eq_true rfl) (hts _ tw_2_47) (fun _ h9 => h9) rfl dX10_people_12 ?_
  obtain ⟨r3, hc4, h⟩ := bd_ex h
  refine sl_V (q0 := 4) (ci := 3) (C := RX3) K (mX3_exist l G F pp r1 hc4) tw_4_33 tw_1_10 tw_4_31 tw_4_32 tw_4_30 cdX3_exist ⟨Nat.le_of_ble_eq_true rfl, Nat.le_of_ble_eq_true rfl⟩ hP hD hS [2] rfl rfl rfl rfl rfl rfl rfl hl.1 (Nat.le_of_ble_eq_true rfl) ⟨Nat.zero_le _, Nat.zero_le _⟩ dX10_people_15 (fun H locs hP hD hS => ?_)
  have hP : va_P G.1 vwCl (List.flatten [wM mm mm_text mm_reader mm_field mm_acts mm_seen (ss 0) (pp 0) mm_slots, wS G ss σss, wP G pp r1]) H := hP
  have hD : va_D A (List.flatten [wM mm mm_text mm_reader mm_field mm_acts mm_seen (ss 0) (pp 0) mm_slots, wS G ss σss, wP G pp r1]) := hD
  refine lv_if_ne (tgt := 24) hx hb dX10_people_18 (by decide) (fun c5 => ?_) (fun c5 => ?_)
  · have h := if_f c5 h
    refine lv_iload_n hx hb dX10_people_24 rfl (lv_at hl 1 rfl) ?_
    refine lv_if_eq (tgt := 38) hx hb dX10_people_25 (by decide) (fun c6 => ?_) (fun c6 => ?_)
    · have h := if_t c6 h
      refine lv_aload_n hx hb dX10_people_38 rfl (lv_at hl 0 rfl) ?_
      refine va_get (D := G.1) (cl := vwCl) (tys := tysG G) (ci := 10) (v := .ref (pp 0)) (C := RX10) (T := TX10) (N := 8) hx hb hts iX10 hown hG.1 hP 0 rfl rfl 6 (Nat.le_of_ble_eq_true rfl) (hts _ tw_2_47) (fun _ h9 => h9) rfl dX10_people_39 ?_
      obtain ⟨r7, hc8, h⟩ := bd_ex h
      refine sl_V (q0 := 4) (ci := 3) (C := RX3) K (mX3_fewestHeads l G F pp r1 hc8) tw_4_41 tw_1_10 tw_4_39 tw_4_40 tw_4_38 cdX3_fewestHeads ⟨Nat.le_of_ble_eq_true rfl, Nat.le_of_ble_eq_true rfl⟩ hP hD hS [2] rfl rfl rfl rfl rfl rfl rfl hl.1 (Nat.le_of_ble_eq_true rfl) ⟨Nat.zero_le _, Nat.zero_le _⟩ dX10_people_42 (fun H locs hP hD hS => ?_)
      have hP : va_P G.1 vwCl (List.flatten [wM mm mm_text mm_reader mm_field mm_acts mm_seen (ss 0) (pp 0) mm_slots, wS G ss σss, wP G pp r1]) H := hP
      have hD : va_D A (List.flatten [wM mm mm_text mm_reader mm_field mm_acts mm_seen (ss 0) (pp 0) mm_slots, wS G ss σss, wP G pp r1]) := hD
      cases h
      exact rt_i K hP hD hS dX10_people_45
    · have h := if_f c6 h
      refine lv_aload_n hx hb dX10_people_28 rfl (lv_at hl 0 rfl) ?_
      refine va_get (D := G.1) (cl := vwCl) (tys := tysG G) (ci := 10) (v := .ref (pp 0)) (C := RX10) (T := TX10) (N := 8) hx hb hts iX10 hown hG.1 hP 0 rfl rfl 6 (Nat.le_of_ble_eq_true rfl) (hts _ tw_2_47) (fun _ h9 => h9) rfl dX10_people_29 ?_
      obtain ⟨r9, hc10, h⟩ := bd_ex h
      refine sl_V (q0 := 4) (ci := 3) (C := RX3) K (mX3_mostHeads l G F pp r1 hc10) tw_4_37 tw_1_10 tw_4_35 tw_4_36 tw_4_34 cdX3_mostHeads ⟨Nat.le_of_ble_eq_true rfl, Nat.le_of_ble_eq_true rfl⟩ hP hD hS [2] rfl rfl rfl rfl rfl rfl rfl hl.1 (Nat.le_of_ble_eq_true rfl) ⟨Nat.zero_le _, Nat.zero_le _⟩ dX10_people_32 (fun H locs hP hD hS => ?_)
      have hP : va_P G.1 vwCl (List.flatten [wM mm mm_text mm_reader mm_field mm_acts mm_seen (ss 0) (pp 0) mm_slots, wS G ss σss, wP G pp r1]) H := hP
      have hD : va_D A (List.flatten [wM mm mm_text mm_reader mm_field mm_acts mm_seen (ss 0) (pp 0) mm_slots, wS G ss σss, wP G pp r1]) := hD
      refine lv_goto (tgt := 45) hx hb dX10_people_35 (by decide) ?_
      cases h
      exact rt_i K hP hD hS dX10_people_45
  · have h := if_t c5 h
    refine lv_bipush (v := -9) hx hb dX10_people_21 lb_m9 ?_
    cases h
    exact rt_i K hP hD hS dX10_people_23
def fX10_sure (F : Nat) (σss : ST) (σpp : ST)  : Option (Int32 × ST) :=
  (fX3_prepare F σpp σss).bind fun r1 =>
  (fX3_exist F r1).bind fun r3 =>
  if r3 = 0 then
    some ((-9 : Int32), r1)
  else
    (fX3_surelyTaken F r1).bind fun r6 =>
    some (r6, r1)
theorem cdX10_sure : CallD yX10_sure 0 := by decide +kernel
set_option maxHeartbeats 4000000 in
set_option maxRecDepth 100000 in
theorem mX10_sure (l : Launch) (G : GP) (F : Nat) (mm : Nat) (ss : Nat → Nat) (pp : Nat → Nat) (mm_text : Nat) (mm_reader : Nat) (mm_field : Nat) (mm_acts : Nat) (mm_seen : Nat) (mm_slots : Nat) (σss : ST) (σpp : ST)  {r : Int32 × ST} (h : fX10_sure F σss σpp  = some r) : CC l G yX10_sure cX10_sure 1 (some .int) 6 [.ref mm] (List.flatten [wM mm mm_text mm_reader mm_field mm_acts mm_seen (ss 0) (pp 0) mm_slots, wS G ss σss, wP G pp σpp]) (List.flatten [wM mm mm_text mm_reader mm_field mm_acts mm_seen (ss 0) (pp 0) mm_slots, wS G ss σss, wP G pp r.2]) (some (.int r.1)) := by
  refine CC.of (by decide) (Nat.le_of_ble_eq_true rfl) ?_
  intro p e s m below meth c A K hP hD hS ls hl
  obtain ⟨hx, hb, hr, hml, hts, hown, hlocks, hA, hG⟩ := id K
  have hl : lv_has ls 1 [(0, .ref mm)] := hl
  unfold fX10_sure at h
  refine lv_aload_n hx hb dX10_sure_0 rfl (lv_at hl 0 rfl) ?_
  refine va_get (D := G.1) (cl := vwCl) (tys := tysG G) (ci := 10) (v := .ref (pp 0)) (C := RX10) (T := TX10) (N := 8) hx hb hts iX10 hown hG.1 hP 0 rfl rfl 6 (Nat.le_of_ble_eq_true rfl) (hts _ tw_2_47) (fun _ h9 => h9) rfl dX10_sure_1 ?_
  refine lv_aload_n hx hb dX10_sure_4 rfl (lv_at hl 0 rfl) ?_
  refine va_get (D := G.1) (cl := vwCl) (tys := tysG G) (ci := 10) (v := .ref (ss 0)) (C := RX10) (T := TX10) (N := 8) hx hb hts iX10 hown hG.1 hP 0 rfl rfl 5 (Nat.le_of_ble_eq_true rfl) (hts _ tw_2_46) (fun _ h9 => h9) rfl dX10_sure_5 ?_
  obtain ⟨r1, hc2, h⟩ := bd_ex h
  refine sl_V (q0 := 4) (ci := 3) (C := RX3) K (mX3_prepare l G F pp ss σpp σss hc2) tw_4_3 tw_1_10 tw_4_1 tw_4_2 tw_4_0 cdX3_prepare ⟨Nat.le_of_ble_eq_true rfl, Nat.le_of_ble_eq_true rfl⟩ hP hD hS [2, 1] rfl rfl rfl rfl rfl rfl rfl hl.1 (Nat.le_of_ble_eq_true rfl) ⟨Nat.zero_le _, Nat.zero_le _⟩ dX10_sure_8 (fun H locs hP hD hS => ?_)
  have hP : va_P G.1 vwCl (List.flatten [wM mm mm_text mm_reader mm_field mm_acts mm_seen (ss 0) (pp 0) mm_slots, wS G ss σss, wP G pp r1]) H := hP
  have hD : va_D A (List.flatten [wM mm mm_text mm_reader mm_field mm_acts mm_seen (ss 0) (pp 0) mm_slots, wS G ss σss, wP G pp r1]) := hD
  refine lv_aload_n hx hb dX10_sure_11 rfl (lv_at hl 0 rfl) ?_
  refine va_get (D := G.1) (cl := vwCl) (tys := tysG G) (ci := 10) (v := .ref (pp 0)) (C := RX10) (T := TX10) (N := 8) hx hb hts iX10 hown hG.1 hP 0 rfl rfl 6 (Nat.le_of_ble_eq_true rfl) (hts _ tw_2_47) (fun _ h9 => h9) rfl dX10_sure_12 ?_
  obtain ⟨r3, hc4, h⟩ := bd_ex h
  refine sl_V (q0 := 4) (ci := 3) (C := RX3) K (mX3_exist l G F pp r1 hc4) tw_4_33 tw_1_10 tw_4_31 tw_4_32 tw_4_30 cdX3_exist ⟨Nat.le_of_ble_eq_true rfl, Nat.le_of_ble_eq_true rfl⟩ hP hD hS [2] rfl rfl rfl rfl rfl rfl rfl hl.1 (Nat.le_of_ble_eq_true rfl) ⟨Nat.zero_le _, Nat.zero_le _⟩ dX10_sure_15 (fun H locs hP hD hS => ?_)
  have hP : va_P G.1 vwCl (List.flatten [wM mm mm_text mm_reader mm_field mm_acts mm_seen (ss 0) (pp 0) mm_slots, wS G ss σss, wP G pp r1]) H := hP
  have hD : va_D A (List.flatten [wM mm mm_text mm_reader mm_field mm_acts mm_seen (ss 0) (pp 0) mm_slots, wS G ss σss, wP G pp r1]) := hD
  refine lv_if_eq (tgt := 31) hx hb dX10_sure_18 (by decide) (fun c5 => ?_) (fun c5 => ?_)
  · have h := if_t c5 h
    refine lv_bipush (v := -9) hx hb dX10_sure_31 lb_m9 ?_
    cases h
    exact rt_i K hP hD hS dX10_sure_33
  · have h := if_f c5 h
    refine lv_aload_n hx hb dX10_sure_21 rfl (lv_at hl 0 rfl) ?_
    refine va_get (D := G.1) (cl := vwCl) (tys := tysG G) (ci := 10) (v := .ref (pp 0)) (C := RX10) (T := TX10) (N := 8) hx hb hts iX10 hown hG.1 hP 0 rfl rfl 6 (Nat.le_of_ble_eq_true rfl) (hts _ tw_2_47) (fun _ h9 => h9) rfl dX10_sure_22 ?_
    obtain ⟨r6, hc7, h⟩ := bd_ex h
    refine sl_V (q0 := 4) (ci := 3) (C := RX3) K (mX3_surelyTaken l G F pp r1 hc7) tw_4_53 tw_1_10 tw_4_51 tw_4_52 tw_4_50 cdX3_surelyTaken ⟨Nat.le_of_ble_eq_true rfl, Nat.le_of_ble_eq_true rfl⟩ hP hD hS [2] rfl rfl rfl rfl rfl rfl rfl hl.1 (Nat.le_of_ble_eq_true rfl) ⟨Nat.zero_le _, Nat.zero_le _⟩ dX10_sure_25 (fun H locs hP hD hS => ?_)
    have hP : va_P G.1 vwCl (List.flatten [wM mm mm_text mm_reader mm_field mm_acts mm_seen (ss 0) (pp 0) mm_slots, wS G ss σss, wP G pp r1]) H := hP
    have hD : va_D A (List.flatten [wM mm mm_text mm_reader mm_field mm_acts mm_seen (ss 0) (pp 0) mm_slots, wS G ss σss, wP G pp r1]) := hD
    refine lv_goto (tgt := 33) hx hb dX10_sure_28 (by decide) ?_
    cases h
    exact rt_i K hP hD hS dX10_sure_33
def fX10_next (F : Nat) (σss : ST) (σpp : ST)  : Option (Int32 × ST) :=
  (fX3_prepare F σpp σss).bind fun r1 =>
  (fX3_exist F r1).bind fun r3 =>
  if r3 = 0 then
    some ((-9 : Int32), r1)
  else
    (fX3_tellingMinute F r1).bind fun r6 =>
    some (r6.1, r6.2)
theorem cdX10_next : CallD yX10_next 0 := by decide +kernel
set_option maxHeartbeats 4000000 in
set_option maxRecDepth 100000 in
theorem mX10_next (l : Launch) (G : GP) (F : Nat) (mm : Nat) (ss : Nat → Nat) (pp : Nat → Nat) (mm_text : Nat) (mm_reader : Nat) (mm_field : Nat) (mm_acts : Nat) (mm_seen : Nat) (mm_slots : Nat) (σss : ST) (σpp : ST)  {r : Int32 × ST} (h : fX10_next F σss σpp  = some r) : CC l G yX10_next cX10_next 1 (some .int) 6 [.ref mm] (List.flatten [wM mm mm_text mm_reader mm_field mm_acts mm_seen (ss 0) (pp 0) mm_slots, wS G ss σss, wP G pp σpp]) (List.flatten [wM mm mm_text mm_reader mm_field mm_acts mm_seen (ss 0) (pp 0) mm_slots, wS G ss σss, wP G pp r.2]) (some (.int r.1)) := by
  refine CC.of (by decide) (Nat.le_of_ble_eq_true rfl) ?_
  intro p e s m below meth c A K hP hD hS ls hl
  obtain ⟨hx, hb, hr, hml, hts, hown, hlocks, hA, hG⟩ := id K
  have hl : lv_has ls 1 [(0, .ref mm)] := hl
  unfold fX10_next at h
  refine lv_aload_n hx hb dX10_next_0 rfl (lv_at hl 0 rfl) ?_
  refine va_get (D := G.1) (cl := vwCl) (tys := tysG G) (ci := 10) (v := .ref (pp 0)) (C := RX10) (T := TX10) (N := 8) hx hb hts iX10 hown hG.1 hP 0 rfl rfl 6 (Nat.le_of_ble_eq_true rfl) (hts _ tw_2_47) (fun _ h9 => h9) rfl dX10_next_1 ?_
  refine lv_aload_n hx hb dX10_next_4 rfl (lv_at hl 0 rfl) ?_
  refine va_get (D := G.1) (cl := vwCl) (tys := tysG G) (ci := 10) (v := .ref (ss 0)) (C := RX10) (T := TX10) (N := 8) hx hb hts iX10 hown hG.1 hP 0 rfl rfl 5 (Nat.le_of_ble_eq_true rfl) (hts _ tw_2_46) (fun _ h9 => h9) rfl dX10_next_5 ?_
  obtain ⟨r1, hc2, h⟩ := bd_ex h
  refine sl_V (q0 := 4) (ci := 3) (C := RX3) K (mX3_prepare l G F pp ss σpp σss hc2) tw_4_3 tw_1_10 tw_4_1 tw_4_2 tw_4_0 cdX3_prepare ⟨Nat.le_of_ble_eq_true rfl, Nat.le_of_ble_eq_true rfl⟩ hP hD hS [2, 1] rfl rfl rfl rfl rfl rfl rfl hl.1 (Nat.le_of_ble_eq_true rfl) ⟨Nat.zero_le _, Nat.zero_le _⟩ dX10_next_8 (fun H locs hP hD hS => ?_)
  have hP : va_P G.1 vwCl (List.flatten [wM mm mm_text mm_reader mm_field mm_acts mm_seen (ss 0) (pp 0) mm_slots, wS G ss σss, wP G pp r1]) H := hP
  have hD : va_D A (List.flatten [wM mm mm_text mm_reader mm_field mm_acts mm_seen (ss 0) (pp 0) mm_slots, wS G ss σss, wP G pp r1]) := hD
  refine lv_aload_n hx hb dX10_next_11 rfl (lv_at hl 0 rfl) ?_
  refine va_get (D := G.1) (cl := vwCl) (tys := tysG G) (ci := 10) (v := .ref (pp 0)) (C := RX10) (T := TX10) (N := 8) hx hb hts iX10 hown hG.1 hP 0 rfl rfl 6 (Nat.le_of_ble_eq_true rfl) (hts _ tw_2_47) (fun _ h9 => h9) rfl dX10_next_12 ?_
  obtain ⟨r3, hc4, h⟩ := bd_ex h
  refine sl_V (q0 := 4) (ci := 3) (C := RX3) K (mX3_exist l G F pp r1 hc4) tw_4_33 tw_1_10 tw_4_31 tw_4_32 tw_4_30 cdX3_exist ⟨Nat.le_of_ble_eq_true rfl, Nat.le_of_ble_eq_true rfl⟩ hP hD hS [2] rfl rfl rfl rfl rfl rfl rfl hl.1 (Nat.le_of_ble_eq_true rfl) ⟨Nat.zero_le _, Nat.zero_le _⟩ dX10_next_15 (fun H locs hP hD hS => ?_)
  have hP : va_P G.1 vwCl (List.flatten [wM mm mm_text mm_reader mm_field mm_acts mm_seen (ss 0) (pp 0) mm_slots, wS G ss σss, wP G pp r1]) H := hP
  have hD : va_D A (List.flatten [wM mm mm_text mm_reader mm_field mm_acts mm_seen (ss 0) (pp 0) mm_slots, wS G ss σss, wP G pp r1]) := hD
  refine lv_if_eq (tgt := 31) hx hb dX10_next_18 (by decide) (fun c5 => ?_) (fun c5 => ?_)
  · have h := if_t c5 h
    refine lv_bipush (v := -9) hx hb dX10_next_31 lb_m9 ?_
    cases h
    exact rt_i K hP hD hS dX10_next_33
  · have h := if_f c5 h
    refine lv_aload_n hx hb dX10_next_21 rfl (lv_at hl 0 rfl) ?_
    refine va_get (D := G.1) (cl := vwCl) (tys := tysG G) (ci := 10) (v := .ref (pp 0)) (C := RX10) (T := TX10) (N := 8) hx hb hts iX10 hown hG.1 hP 0 rfl rfl 6 (Nat.le_of_ble_eq_true rfl) (hts _ tw_2_47) (fun _ h9 => h9) rfl dX10_next_22 ?_
    obtain ⟨r6, hc7, h⟩ := bd_ex h
    refine sl_V (q0 := 4) (ci := 3) (C := RX3) K (mX3_tellingMinute l G F pp r1 hc7) tw_4_65 tw_1_10 tw_4_63 tw_4_64 tw_4_62 cdX3_tellingMinute ⟨Nat.le_of_ble_eq_true rfl, Nat.le_of_ble_eq_true rfl⟩ hP hD hS [2] rfl rfl rfl rfl rfl rfl rfl hl.1 (Nat.le_of_ble_eq_true rfl) ⟨Nat.zero_le _, Nat.zero_le _⟩ dX10_next_25 (fun H locs hP hD hS => ?_)
    have hP : va_P G.1 vwCl (List.flatten [wM mm mm_text mm_reader mm_field mm_acts mm_seen (ss 0) (pp 0) mm_slots, wS G ss σss, wP G pp r6.2]) H := hP
    have hD : va_D A (List.flatten [wM mm mm_text mm_reader mm_field mm_acts mm_seen (ss 0) (pp 0) mm_slots, wS G ss σss, wP G pp r6.2]) := hD
    refine lv_goto (tgt := 33) hx hb dX10_next_28 (by decide) ?_
    cases h
    exact rt_i K hP hD hS dX10_next_33
def fX10_keep (F : Nat) (σbb : ST) (σss : ST) (σl0 : ST) (σb0 : ST) (σs0 : ST) (σl1 : ST) (σb1 : ST) (σs1 : ST) (x1 : Int32) : Option (Int32 × ST × ST × ST × ST × ST × ST) :=
  (fX10_isBelow F x1 (2 : Int32)).bind fun r1 =>
  if r1 = 0 then
    some ((-1 : Int32), σl0, σb0, σs0, σl1, σb1, σs1)
  else
    if x1 = 0 then
      (fX1_copyFrom F σb0 σbb).bind fun r5 =>
      (fX7_copyFrom F σs0 σss).bind fun r7 =>
      nm (sI σl0 2 (1 : Int32)) fun (s9 : ST) =>
      some (σbb.1 3, s9, r5, r7, σl1, σb1, σs1)
    else
    if x1 = 1 then
      (fX1_copyFrom F σb1 σbb).bind fun r12 =>
      (fX7_copyFrom F σs1 σss).bind fun r14 =>
      nm (sI σl1 2 (1 : Int32)) fun (s16 : ST) =>
      some (σbb.1 3, σl0, σb0, σs0, s16, r12, r14)
    else
      none
theorem cdX10_keep : CallD yX10_keep 1 := by decide +kernel
set_option maxHeartbeats 4000000 in
set_option maxRecDepth 100000 in
theorem mX10_keep (l : Launch) (G : GP) (F : Nat) (mm : Nat) (ff : Nat) (bb : Nat → Nat) (ss : Nat → Nat) (zz : Nat) (l0 : Nat) (b0 : Nat → Nat) (s0 : Nat → Nat) (l1 : Nat) (b1 : Nat → Nat) (s1 : Nat → Nat) (mm_text : Nat) (mm_reader : Nat) (mm_acts : Nat) (mm_seen : Nat) (mm_rows : Nat) (ff_ground : Nat) (σbb : ST) (σss : ST) (σl0 : ST) (σb0 : ST) (σs0 : ST) (σl1 : ST) (σb1 : ST) (σs1 : ST) (x1 : Int32) {r : Int32 × ST × ST × ST × ST × ST × ST} (h : fX10_keep F σbb σss σl0 σb0 σs0 σl1 σb1 σs1 x1 = some r) : CC l G yX10_keep cX10_keep 2 (some .int) 2 [.ref mm, .int x1] (List.flatten [wM mm mm_text mm_reader ff mm_acts mm_seen (ss 0) mm_rows zz, wF ff (bb 0) ff_ground, wB G bb σbb, wS G ss σss, wZ G zz l0 l1, wL l0 (b0 0) (s0 0) σl0, wB G b0 σb0, wS G s0 σs0, wL l1 (b1 0) (s1 0) σl1, wB G b1 σb1, wS G s1 σs1]) (List.flatten [wM mm mm_text mm_reader ff mm_acts mm_seen (ss 0) mm_rows zz, wF ff (bb 0) ff_ground, wB G bb σbb, wS G ss σss, wZ G zz l0 l1, wL l0 (b0 0) (s0 0) r.2.1, wB G b0 r.2.2.1, wS G s0 r.2.2.2.1, wL l1 (b1 0) (s1 0) r.2.2.2.2.1, wB G b1 r.2.2.2.2.2.1, wS G s1 r.2.2.2.2.2.2]) (some (.int r.1)) := by
  refine CC.of (by decide) (Nat.le_of_ble_eq_true rfl) ?_
  intro p e s m below meth c A K hP hD hS ls hl
  obtain ⟨hx, hb, hr, hml, hts, hown, hlocks, hA, hG⟩ := id K
  have hl : lv_has ls 2 [(0, .ref mm), (1, .int x1)] := hl
  unfold fX10_keep at h
  refine lv_iload_n hx hb dX10_keep_0 rfl (lv_at hl 1 rfl) ?_
  refine lv_iconst (v := 2) hx hb dX10_keep_1 li_2 ?_
  obtain ⟨r1, hc2, h⟩ := bd_ex h
  refine sl_S K (mX10_isBelow l G F x1 (2 : Int32) hc2) tw_2_194 tw_1_1 tw_2_193 tw_2_222 cdX10_isBelow ⟨Nat.le_of_ble_eq_true rfl, Nat.le_of_ble_eq_true rfl⟩ hP hD hS [] rfl rfl rfl rfl hl.1 (Nat.le_of_ble_eq_true rfl) ⟨Nat.zero_le _, Nat.zero_le _⟩ dX10_keep_2 (fun H locs hP hD hS => ?_)
  have hP : va_P G.1 vwCl (List.flatten [wM mm mm_text mm_reader ff mm_acts mm_seen (ss 0) mm_rows zz, wF ff (bb 0) ff_ground, wB G bb σbb, wS G ss σss, wZ G zz l0 l1, wL l0 (b0 0) (s0 0) σl0, wB G b0 σb0, wS G s0 σs0, wL l1 (b1 0) (s1 0) σl1, wB G b1 σb1, wS G s1 σs1]) H := hP
  have hD : va_D A (List.flatten [wM mm mm_text mm_reader ff mm_acts mm_seen (ss 0) mm_rows zz, wF ff (bb 0) ff_ground, wB G bb σbb, wS G ss σss, wZ G zz l0 l1, wL l0 (b0 0) (s0 0) σl0, wB G b0 σb0, wS G s0 σs0, wL l1 (b1 0) (s1 0) σl1, wB G b1 σb1, wS G s1 σs1]) := hD
  refine lv_if_ne (tgt := 10) hx hb dX10_keep_5 (by decide) (fun c3 => ?_) (fun c3 => ?_)
  · have h := if_f c3 h
    refine lv_aload_n hx hb dX10_keep_10 rfl (lv_at hl 0 rfl) ?_
    refine va_get (D := G.1) (cl := vwCl) (tys := tysG G) (ci := 10) (v := .ref zz) (C := RX10) (T := TX10) (N := 8) hx hb hts iX10 hown hG.1 hP 0 rfl rfl 7 (Nat.le_of_ble_eq_true rfl) (hts _ tw_2_48) (fun _ h9 => h9) rfl dX10_keep_11 ?_
    refine lv_iload_n hx hb dX10_keep_14 rfl (lv_at hl 1 rfl) ?_
    by_cases c4 : x1 = 0
    · have h := if_t c4 h
      refine my_aald hx hb hG.1 hP 9 5 rfl rfl (b := l0) rfl (by rw [c4]; exact vpi (by decide)) (by rw [c4]; rfl) dX10_keep_15 ?_
      refine va_get (D := G.1) (cl := vwCl) (tys := tysG G) (ci := 8) (v := .ref (b0 0)) (C := RX8) (T := TX8) (N := 3) hx hb hts iX8 hown hG.1 hP 10 rfl rfl 0 (Nat.le_of_ble_eq_true rfl) (hts _ tw_2_30) (fun _ h9 => h9) rfl dX10_keep_16 ?_
      refine lv_aload_n hx hb dX10_keep_19 rfl (lv_at hl 0 rfl) ?_
      refine va_get (D := G.1) (cl := vwCl) (tys := tysG G) (ci := 10) (v := .ref ff) (C := RX10) (T := TX10) (N := 8) hx hb hts iX10 hown hG.1 hP 0 rfl rfl 2 (Nat.le_of_ble_eq_true rfl) (hts _ tw_2_43) (fun _ h9 => h9) rfl dX10_keep_20 ?_
      refine va_get (D := G.1) (cl := vwCl) (tys := tysG G) (ci := 2) (v := .ref (bb 0)) (C := RX2) (T := TX2) (N := 2) hx hb hts iX2 hown hG.1 hP 1 rfl rfl 0 (Nat.le_of_ble_eq_true rfl) (hts _ tw_1_125) (fun _ h9 => h9) rfl dX10_keep_23 ?_
      obtain ⟨r5, hc6, h⟩ := bd_ex h
      refine sl_V (q0 := 11) (ci := 1) (C := RX1) K (mX1_copyFrom l G F b0 bb σb0 σbb hc6) tw_3_34 tw_1_5 tw_3_32 tw_3_33 tw_4_78 cdX1_copyFrom ⟨Nat.le_of_ble_eq_true rfl, Nat.le_of_ble_eq_true rfl⟩ hP hD hS [6, 2] rfl rfl rfl rfl rfl rfl rfl hl.1 (Nat.le_of_ble_eq_true rfl) ⟨Nat.zero_le _, Nat.zero_le _⟩ dX10_keep_26 (fun H locs hP hD hS => ?_)
      have hP : va_P G.1 vwCl (List.flatten [wM mm mm_text mm_reader ff mm_acts mm_seen (ss 0) mm_rows zz, wF ff (bb 0) ff_ground, wB G bb σbb, wS G ss σss, wZ G zz l0 l1, wL l0 (b0 0) (s0 0) σl0, wB G b0 r5, wS G s0 σs0, wL l1 (b1 0) (s1 0) σl1, wB G b1 σb1, wS G s1 σs1]) H := hP
      have hD : va_D A (List.flatten [wM mm mm_text mm_reader ff mm_acts mm_seen (ss 0) mm_rows zz, wF ff (bb 0) ff_ground, wB G bb σbb, wS G ss σss, wZ G zz l0 l1, wL l0 (b0 0) (s0 0) σl0, wB G b0 r5, wS G s0 σs0, wL l1 (b1 0) (s1 0) σl1, wB G b1 σb1, wS G s1 σs1]) := hD
      refine lv_aload_n hx hb dX10_keep_29 rfl (lv_at hl 0 rfl) ?_
      refine va_get (D := G.1) (cl := vwCl) (tys := tysG G) (ci := 10) (v := .ref zz) (C := RX10) (T := TX10) (N := 8) hx hb hts iX10 hown hG.1 hP 0 rfl rfl 7 (Nat.le_of_ble_eq_true rfl) (hts _ tw_2_48) (fun _ h9 => h9) rfl dX10_keep_30 ?_
      refine lv_iload_n hx hb dX10_keep_33 rfl (lv_at hl 1 rfl) ?_
      refine my_aald hx hb hG.1 hP 9 5 rfl rfl (b := l0) rfl (by rw [c4]; exact vpi (by decide)) (by rw [c4]; rfl) dX10_keep_34 ?_
      refine va_get (D := G.1) (cl := vwCl) (tys := tysG G) (ci := 8) (v := .ref (s0 0)) (C := RX8) (T := TX8) (N := 3) hx hb hts iX8 hown hG.1 hP 10 rfl rfl 1 (Nat.le_of_ble_eq_true rfl) (hts _ tw_2_32) (fun _ h9 => h9) rfl dX10_keep_35 ?_
      refine lv_aload_n hx hb dX10_keep_38 rfl (lv_at hl 0 rfl) ?_
      refine va_get (D := G.1) (cl := vwCl) (tys := tysG G) (ci := 10) (v := .ref (ss 0)) (C := RX10) (T := TX10) (N := 8) hx hb hts iX10 hown hG.1 hP 0 rfl rfl 5 (Nat.le_of_ble_eq_true rfl) (hts _ tw_2_46) (fun _ h9 => h9) rfl dX10_keep_39 ?_
      obtain ⟨r7, hc8, h⟩ := bd_ex h
      refine sl_V (q0 := 15) (ci := 7) (C := RX7) K (mX7_copyFrom l G F s0 ss σs0 σss hc8) tw_4_82 tw_1_9 tw_4_80 tw_4_81 tw_4_79 cdX7_copyFrom ⟨Nat.le_of_ble_eq_true rfl, Nat.le_of_ble_eq_true rfl⟩ hP hD hS [7, 3] rfl rfl rfl rfl rfl rfl rfl hl.1 (Nat.le_of_ble_eq_true rfl) ⟨Nat.zero_le _, Nat.zero_le _⟩ dX10_keep_42 (fun H locs hP hD hS => ?_)
      have hP : va_P G.1 vwCl (List.flatten [wM mm mm_text mm_reader ff mm_acts mm_seen (ss 0) mm_rows zz, wF ff (bb 0) ff_ground, wB G bb σbb, wS G ss σss, wZ G zz l0 l1, wL l0 (b0 0) (s0 0) σl0, wB G b0 r5, wS G s0 r7, wL l1 (b1 0) (s1 0) σl1, wB G b1 σb1, wS G s1 σs1]) H := hP
      have hD : va_D A (List.flatten [wM mm mm_text mm_reader ff mm_acts mm_seen (ss 0) mm_rows zz, wF ff (bb 0) ff_ground, wB G bb σbb, wS G ss σss, wZ G zz l0 l1, wL l0 (b0 0) (s0 0) σl0, wB G b0 r5, wS G s0 r7, wL l1 (b1 0) (s1 0) σl1, wB G b1 σb1, wS G s1 σs1]) := hD
      refine lv_aload_n hx hb dX10_keep_45 rfl (lv_at hl 0 rfl) ?_
      refine va_get (D := G.1) (cl := vwCl) (tys := tysG G) (ci := 10) (v := .ref zz) (C := RX10) (T := TX10) (N := 8) hx hb hts iX10 hown hG.1 hP 0 rfl rfl 7 (Nat.le_of_ble_eq_true rfl) (hts _ tw_2_48) (fun _ h9 => h9) rfl dX10_keep_46 ?_
      refine lv_iload_n hx hb dX10_keep_49 rfl (lv_at hl 1 rfl) ?_
      refine my_aald hx hb hG.1 hP 9 5 rfl rfl (b := l0) rfl (by rw [c4]; exact vpi (by decide)) (by rw [c4]; rfl) dX10_keep_50 ?_
      refine lv_iconst (v := 1) hx hb dX10_keep_51 li_1 ?_
      obtain ⟨s9, e10, h⟩ := nm_ex h
      refine va_put (D := G.1) (cl := vwCl) (tys := tysG G) (ci := 8) (v := .int (1 : Int32)) (ty := .boolean) (C := RX8) (T := TX8) (N := 3) hx hb hts iX8 tyX8 tyX8_ok nmX8 hown hG.1 hP hD hS 10 rfl rfl 2 (Nat.le_of_ble_eq_true rfl) (hts _ tw_2_33) (fun _ h9 => h9) rfl (by decide +kernel) rfl rfl (Nat.le_of_ble_eq_true rfl) dX10_keep_52 (fun H locs hP hD hS => ?_)
      have hP : va_P G.1 vwCl (List.flatten [wM mm mm_text mm_reader ff mm_acts mm_seen (ss 0) mm_rows zz, wF ff (bb 0) ff_ground, wB G bb σbb, wS G ss σss, wZ G zz l0 l1, wL l0 (b0 0) (s0 0) s9, wB G b0 r5, wS G s0 r7, wL l1 (b1 0) (s1 0) σl1, wB G b1 σb1, wS G s1 σs1]) H := by rw [e10]; exact hP
      have hD : va_D A (List.flatten [wM mm mm_text mm_reader ff mm_acts mm_seen (ss 0) mm_rows zz, wF ff (bb 0) ff_ground, wB G bb σbb, wS G ss σss, wZ G zz l0 l1, wL l0 (b0 0) (s0 0) s9, wB G b0 r5, wS G s0 r7, wL l1 (b1 0) (s1 0) σl1, wB G b1 σb1, wS G s1 σs1]) := by rw [e10]; exact hD
      refine lv_aload_n hx hb dX10_keep_55 rfl (lv_at hl 0 rfl) ?_
      refine va_get (D := G.1) (cl := vwCl) (tys := tysG G) (ci := 10) (v := .ref ff) (C := RX10) (T := TX10) (N := 8) hx hb hts iX10 hown hG.1 hP 0 rfl rfl 2 (Nat.le_of_ble_eq_true rfl) (hts _ tw_2_43) (fun _ h9 => h9) rfl dX10_keep_56 ?_
      refine va_get (D := G.1) (cl := vwCl) (tys := tysG G) (ci := 2) (v := .ref (bb 0)) (C := RX2) (T := TX2) (N := 2) hx hb hts iX2 hown hG.1 hP 1 rfl rfl 0 (Nat.le_of_ble_eq_true rfl) (hts _ tw_1_125) (fun _ h9 => h9) rfl dX10_keep_59 ?_
      refine va_get (D := G.1) (cl := vwCl) (tys := tysG G) (ci := 1) (v := .int (σbb.1 3)) (C := RX1) (T := TX1) (N := 4) hx hb hts iX1 hown hG.1 hP 2 rfl rfl 3 (Nat.le_of_ble_eq_true rfl) (hts _ tw_1_77) (fun _ h9 => h9) rfl dX10_keep_62 ?_
      cases h
      exact rt_i K hP hD hS dX10_keep_65
    have h := if_f c4 h
    by_cases c11 : x1 = 1
    · have h := if_t c11 h
      refine my_aald hx hb hG.1 hP 9 5 rfl rfl (b := l1) rfl (by rw [c11]; exact vpi (by decide)) (by rw [c11]; rfl) dX10_keep_15 ?_
      refine va_get (D := G.1) (cl := vwCl) (tys := tysG G) (ci := 8) (v := .ref (b1 0)) (C := RX8) (T := TX8) (N := 3) hx hb hts iX8 hown hG.1 hP 18 rfl rfl 0 (Nat.le_of_ble_eq_true rfl) (hts _ tw_2_30) (fun _ h9 => h9) rfl dX10_keep_16 ?_
      refine lv_aload_n hx hb dX10_keep_19 rfl (lv_at hl 0 rfl) ?_
      refine va_get (D := G.1) (cl := vwCl) (tys := tysG G) (ci := 10) (v := .ref ff) (C := RX10) (T := TX10) (N := 8) hx hb hts iX10 hown hG.1 hP 0 rfl rfl 2 (Nat.le_of_ble_eq_true rfl) (hts _ tw_2_43) (fun _ h9 => h9) rfl dX10_keep_20 ?_
      refine va_get (D := G.1) (cl := vwCl) (tys := tysG G) (ci := 2) (v := .ref (bb 0)) (C := RX2) (T := TX2) (N := 2) hx hb hts iX2 hown hG.1 hP 1 rfl rfl 0 (Nat.le_of_ble_eq_true rfl) (hts _ tw_1_125) (fun _ h9 => h9) rfl dX10_keep_23 ?_
      obtain ⟨r12, hc13, h⟩ := bd_ex h
      refine sl_V (q0 := 19) (ci := 1) (C := RX1) K (mX1_copyFrom l G F b1 bb σb1 σbb hc13) tw_3_34 tw_1_5 tw_3_32 tw_3_33 tw_4_78 cdX1_copyFrom ⟨Nat.le_of_ble_eq_true rfl, Nat.le_of_ble_eq_true rfl⟩ hP hD hS [9, 2] rfl rfl rfl rfl rfl rfl rfl hl.1 (Nat.le_of_ble_eq_true rfl) ⟨Nat.zero_le _, Nat.zero_le _⟩ dX10_keep_26 (fun H locs hP hD hS => ?_)
      have hP : va_P G.1 vwCl (List.flatten [wM mm mm_text mm_reader ff mm_acts mm_seen (ss 0) mm_rows zz, wF ff (bb 0) ff_ground, wB G bb σbb, wS G ss σss, wZ G zz l0 l1, wL l0 (b0 0) (s0 0) σl0, wB G b0 σb0, wS G s0 σs0, wL l1 (b1 0) (s1 0) σl1, wB G b1 r12, wS G s1 σs1]) H := hP
      have hD : va_D A (List.flatten [wM mm mm_text mm_reader ff mm_acts mm_seen (ss 0) mm_rows zz, wF ff (bb 0) ff_ground, wB G bb σbb, wS G ss σss, wZ G zz l0 l1, wL l0 (b0 0) (s0 0) σl0, wB G b0 σb0, wS G s0 σs0, wL l1 (b1 0) (s1 0) σl1, wB G b1 r12, wS G s1 σs1]) := hD
      refine lv_aload_n hx hb dX10_keep_29 rfl (lv_at hl 0 rfl) ?_
      refine va_get (D := G.1) (cl := vwCl) (tys := tysG G) (ci := 10) (v := .ref zz) (C := RX10) (T := TX10) (N := 8) hx hb hts iX10 hown hG.1 hP 0 rfl rfl 7 (Nat.le_of_ble_eq_true rfl) (hts _ tw_2_48) (fun _ h9 => h9) rfl dX10_keep_30 ?_
      refine lv_iload_n hx hb dX10_keep_33 rfl (lv_at hl 1 rfl) ?_
      refine my_aald hx hb hG.1 hP 9 5 rfl rfl (b := l1) rfl (by rw [c11]; exact vpi (by decide)) (by rw [c11]; rfl) dX10_keep_34 ?_
      refine va_get (D := G.1) (cl := vwCl) (tys := tysG G) (ci := 8) (v := .ref (s1 0)) (C := RX8) (T := TX8) (N := 3) hx hb hts iX8 hown hG.1 hP 18 rfl rfl 1 (Nat.le_of_ble_eq_true rfl) (hts _ tw_2_32) (fun _ h9 => h9) rfl dX10_keep_35 ?_
      refine lv_aload_n hx hb dX10_keep_38 rfl (lv_at hl 0 rfl) ?_
      refine va_get (D := G.1) (cl := vwCl) (tys := tysG G) (ci := 10) (v := .ref (ss 0)) (C := RX10) (T := TX10) (N := 8) hx hb hts iX10 hown hG.1 hP 0 rfl rfl 5 (Nat.le_of_ble_eq_true rfl) (hts _ tw_2_46) (fun _ h9 => h9) rfl dX10_keep_39 ?_
      obtain ⟨r14, hc15, h⟩ := bd_ex h
      refine sl_V (q0 := 23) (ci := 7) (C := RX7) K (mX7_copyFrom l G F s1 ss σs1 σss hc15) tw_4_82 tw_1_9 tw_4_80 tw_4_81 tw_4_79 cdX7_copyFrom ⟨Nat.le_of_ble_eq_true rfl, Nat.le_of_ble_eq_true rfl⟩ hP hD hS [10, 3] rfl rfl rfl rfl rfl rfl rfl hl.1 (Nat.le_of_ble_eq_true rfl) ⟨Nat.zero_le _, Nat.zero_le _⟩ dX10_keep_42 (fun H locs hP hD hS => ?_)
      have hP : va_P G.1 vwCl (List.flatten [wM mm mm_text mm_reader ff mm_acts mm_seen (ss 0) mm_rows zz, wF ff (bb 0) ff_ground, wB G bb σbb, wS G ss σss, wZ G zz l0 l1, wL l0 (b0 0) (s0 0) σl0, wB G b0 σb0, wS G s0 σs0, wL l1 (b1 0) (s1 0) σl1, wB G b1 r12, wS G s1 r14]) H := hP
      have hD : va_D A (List.flatten [wM mm mm_text mm_reader ff mm_acts mm_seen (ss 0) mm_rows zz, wF ff (bb 0) ff_ground, wB G bb σbb, wS G ss σss, wZ G zz l0 l1, wL l0 (b0 0) (s0 0) σl0, wB G b0 σb0, wS G s0 σs0, wL l1 (b1 0) (s1 0) σl1, wB G b1 r12, wS G s1 r14]) := hD
      refine lv_aload_n hx hb dX10_keep_45 rfl (lv_at hl 0 rfl) ?_
      refine va_get (D := G.1) (cl := vwCl) (tys := tysG G) (ci := 10) (v := .ref zz) (C := RX10) (T := TX10) (N := 8) hx hb hts iX10 hown hG.1 hP 0 rfl rfl 7 (Nat.le_of_ble_eq_true rfl) (hts _ tw_2_48) (fun _ h9 => h9) rfl dX10_keep_46 ?_
      refine lv_iload_n hx hb dX10_keep_49 rfl (lv_at hl 1 rfl) ?_
      refine my_aald hx hb hG.1 hP 9 5 rfl rfl (b := l1) rfl (by rw [c11]; exact vpi (by decide)) (by rw [c11]; rfl) dX10_keep_50 ?_
      refine lv_iconst (v := 1) hx hb dX10_keep_51 li_1 ?_
      obtain ⟨s16, e17, h⟩ := nm_ex h
      refine va_put (D := G.1) (cl := vwCl) (tys := tysG G) (ci := 8) (v := .int (1 : Int32)) (ty := .boolean) (C := RX8) (T := TX8) (N := 3) hx hb hts iX8 tyX8 tyX8_ok nmX8 hown hG.1 hP hD hS 18 rfl rfl 2 (Nat.le_of_ble_eq_true rfl) (hts _ tw_2_33) (fun _ h9 => h9) rfl (by decide +kernel) rfl rfl (Nat.le_of_ble_eq_true rfl) dX10_keep_52 (fun H locs hP hD hS => ?_)
      have hP : va_P G.1 vwCl (List.flatten [wM mm mm_text mm_reader ff mm_acts mm_seen (ss 0) mm_rows zz, wF ff (bb 0) ff_ground, wB G bb σbb, wS G ss σss, wZ G zz l0 l1, wL l0 (b0 0) (s0 0) σl0, wB G b0 σb0, wS G s0 σs0, wL l1 (b1 0) (s1 0) s16, wB G b1 r12, wS G s1 r14]) H := by rw [e17]; exact hP
      have hD : va_D A (List.flatten [wM mm mm_text mm_reader ff mm_acts mm_seen (ss 0) mm_rows zz, wF ff (bb 0) ff_ground, wB G bb σbb, wS G ss σss, wZ G zz l0 l1, wL l0 (b0 0) (s0 0) σl0, wB G b0 σb0, wS G s0 σs0, wL l1 (b1 0) (s1 0) s16, wB G b1 r12, wS G s1 r14]) := by rw [e17]; exact hD
      refine lv_aload_n hx hb dX10_keep_55 rfl (lv_at hl 0 rfl) ?_
      refine va_get (D := G.1) (cl := vwCl) (tys := tysG G) (ci := 10) (v := .ref ff) (C := RX10) (T := TX10) (N := 8) hx hb hts iX10 hown hG.1 hP 0 rfl rfl 2 (Nat.le_of_ble_eq_true rfl) (hts _ tw_2_43) (fun _ h9 => h9) rfl dX10_keep_56 ?_
      refine va_get (D := G.1) (cl := vwCl) (tys := tysG G) (ci := 2) (v := .ref (bb 0)) (C := RX2) (T := TX2) (N := 2) hx hb hts iX2 hown hG.1 hP 1 rfl rfl 0 (Nat.le_of_ble_eq_true rfl) (hts _ tw_1_125) (fun _ h9 => h9) rfl dX10_keep_59 ?_
      refine va_get (D := G.1) (cl := vwCl) (tys := tysG G) (ci := 1) (v := .int (σbb.1 3)) (C := RX1) (T := TX1) (N := 4) hx hb hts iX1 hown hG.1 hP 2 rfl rfl 3 (Nat.le_of_ble_eq_true rfl) (hts _ tw_1_77) (fun _ h9 => h9) rfl dX10_keep_62 ?_
      cases h
      exact rt_i K hP hD hS dX10_keep_65
    have h := if_f c11 h
    cases h
  · have h := if_t c3 h
    refine lv_iconst (v := -1) hx hb dX10_keep_8 li_m1 ?_
    cases h
    exact rt_i K hP hD hS dX10_keep_9
def fX10_again (F : Nat) (σbb : ST) (σss : ST) (σaa : ST) (σl0 : ST) (σb0 : ST) (σs0 : ST) (σl1 : ST) (σb1 : ST) (σs1 : ST) (x1 : Int32) : Option (Int32 × ST × ST × ST) :=
  (fX10_isBelow F x1 (2 : Int32)).bind fun r1 =>
  if r1 = 0 then
    some ((-1 : Int32), σbb, σss, σaa)
  else
    if x1 = 0 then
      if (σl0.1 2) = 0 then
        some ((-3 : Int32), σbb, σss, σaa)
      else
        (fX1_copyFrom F σbb σb0).bind fun r6 =>
        (fX7_copyFrom F σss σs0).bind fun r8 =>
        (fX0_forget F σaa).bind fun r10 =>
        some (r6.1 3, r6, r8, r10)
    else
    if x1 = 1 then
      if (σl1.1 2) = 0 then
        some ((-3 : Int32), σbb, σss, σaa)
      else
        (fX1_copyFrom F σbb σb1).bind fun r14 =>
        (fX7_copyFrom F σss σs1).bind fun r16 =>
        (fX0_forget F σaa).bind fun r18 =>
        some (r14.1 3, r14, r16, r18)
    else
      none
theorem cdX10_again : CallD yX10_again 1 := by decide +kernel
set_option maxHeartbeats 4000000 in
set_option maxRecDepth 100000 in
theorem mX10_again (l : Launch) (G : GP) (F : Nat) (mm : Nat) (ff : Nat) (bb : Nat → Nat) (ss : Nat → Nat) (aa : Nat → Nat) (zz : Nat) (l0 : Nat) (b0 : Nat → Nat) (s0 : Nat → Nat) (l1 : Nat) (b1 : Nat → Nat) (s1 : Nat → Nat) (mm_text : Nat) (mm_reader : Nat) (mm_seen : Nat) (mm_rows : Nat) (ff_ground : Nat) (σbb : ST) (σss : ST) (σaa : ST) (σl0 : ST) (σb0 : ST) (σs0 : ST) (σl1 : ST) (σb1 : ST) (σs1 : ST) (x1 : Int32) {r : Int32 × ST × ST × ST} (h : fX10_again F σbb σss σaa σl0 σb0 σs0 σl1 σb1 σs1 x1 = some r) : CC l G yX10_again cX10_again 2 (some .int) 2 [.ref mm, .int x1] (List.flatten [wM mm mm_text mm_reader ff (aa 0) mm_seen (ss 0) mm_rows zz, wF ff (bb 0) ff_ground, wB G bb σbb, wS G ss σss, wA G aa σaa, wZ G zz l0 l1, wL l0 (b0 0) (s0 0) σl0, wB G b0 σb0, wS G s0 σs0, wL l1 (b1 0) (s1 0) σl1, wB G b1 σb1, wS G s1 σs1]) (List.flatten [wM mm mm_text mm_reader ff (aa 0) mm_seen (ss 0) mm_rows zz, wF ff (bb 0) ff_ground, wB G bb r.2.1, wS G ss r.2.2.1, wA G aa r.2.2.2, wZ G zz l0 l1, wL l0 (b0 0) (s0 0) σl0, wB G b0 σb0, wS G s0 σs0, wL l1 (b1 0) (s1 0) σl1, wB G b1 σb1, wS G s1 σs1]) (some (.int r.1)) := by
  refine CC.of (by decide) (Nat.le_of_ble_eq_true rfl) ?_
  intro p e s m below meth c A K hP hD hS ls hl
  obtain ⟨hx, hb, hr, hml, hts, hown, hlocks, hA, hG⟩ := id K
  have hl : lv_has ls 2 [(0, .ref mm), (1, .int x1)] := hl
  unfold fX10_again at h
  refine lv_iload_n hx hb dX10_again_0 rfl (lv_at hl 1 rfl) ?_
  refine lv_iconst (v := 2) hx hb dX10_again_1 li_2 ?_
  obtain ⟨r1, hc2, h⟩ := bd_ex h
  refine sl_S K (mX10_isBelow l G F x1 (2 : Int32) hc2) tw_2_194 tw_1_1 tw_2_193 tw_2_222 cdX10_isBelow ⟨Nat.le_of_ble_eq_true rfl, Nat.le_of_ble_eq_true rfl⟩ hP hD hS [] rfl rfl rfl rfl hl.1 (Nat.le_of_ble_eq_true rfl) ⟨Nat.zero_le _, Nat.zero_le _⟩ dX10_again_2 (fun H locs hP hD hS => ?_)
  have hP : va_P G.1 vwCl (List.flatten [wM mm mm_text mm_reader ff (aa 0) mm_seen (ss 0) mm_rows zz, wF ff (bb 0) ff_ground, wB G bb σbb, wS G ss σss, wA G aa σaa, wZ G zz l0 l1, wL l0 (b0 0) (s0 0) σl0, wB G b0 σb0, wS G s0 σs0, wL l1 (b1 0) (s1 0) σl1, wB G b1 σb1, wS G s1 σs1]) H := hP
  have hD : va_D A (List.flatten [wM mm mm_text mm_reader ff (aa 0) mm_seen (ss 0) mm_rows zz, wF ff (bb 0) ff_ground, wB G bb σbb, wS G ss σss, wA G aa σaa, wZ G zz l0 l1, wL l0 (b0 0) (s0 0) σl0, wB G b0 σb0, wS G s0 σs0, wL l1 (b1 0) (s1 0) σl1, wB G b1 σb1, wS G s1 σs1]) := hD
  refine lv_if_ne (tgt := 10) hx hb dX10_again_5 (by decide) (fun c3 => ?_) (fun c3 => ?_)
  · have h := if_f c3 h
    refine lv_aload_n hx hb dX10_again_10 rfl (lv_at hl 0 rfl) ?_
    refine va_get (D := G.1) (cl := vwCl) (tys := tysG G) (ci := 10) (v := .ref zz) (C := RX10) (T := TX10) (N := 8) hx hb hts iX10 hown hG.1 hP 0 rfl rfl 7 (Nat.le_of_ble_eq_true rfl) (hts _ tw_2_48) (fun _ h9 => h9) rfl dX10_again_11 ?_
    refine lv_iload_n hx hb dX10_again_14 rfl (lv_at hl 1 rfl) ?_
    by_cases c4 : x1 = 0
    · have h := if_t c4 h
      refine my_aald hx hb hG.1 hP 15 5 rfl rfl (b := l0) rfl (by rw [c4]; exact vpi (by decide)) (by rw [c4]; rfl) dX10_again_15 ?_
      refine va_get (D := G.1) (cl := vwCl) (tys := tysG G) (ci := 8) (v := .int (σl0.1 2)) (C := RX8) (T := TX8) (N := 3) hx hb hts iX8 hown hG.1 hP 16 rfl rfl 2 (Nat.le_of_ble_eq_true rfl) (hts _ tw_2_33) (fun _ h9 => h9) rfl dX10_again_16 ?_
      refine lv_if_ne (tgt := 25) hx hb dX10_again_19 (by decide) (fun c5 => ?_) (fun c5 => ?_)
      · have h := if_f c5 h
        refine lv_aload_n hx hb dX10_again_25 rfl (lv_at hl 0 rfl) ?_
        refine va_get (D := G.1) (cl := vwCl) (tys := tysG G) (ci := 10) (v := .ref ff) (C := RX10) (T := TX10) (N := 8) hx hb hts iX10 hown hG.1 hP 0 rfl rfl 2 (Nat.le_of_ble_eq_true rfl) (hts _ tw_2_43) (fun _ h9 => h9) rfl dX10_again_26 ?_
        refine va_get (D := G.1) (cl := vwCl) (tys := tysG G) (ci := 2) (v := .ref (bb 0)) (C := RX2) (T := TX2) (N := 2) hx hb hts iX2 hown hG.1 hP 1 rfl rfl 0 (Nat.le_of_ble_eq_true rfl) (hts _ tw_1_125) (fun _ h9 => h9) rfl dX10_again_29 ?_
        refine lv_aload_n hx hb dX10_again_32 rfl (lv_at hl 0 rfl) ?_
        refine va_get (D := G.1) (cl := vwCl) (tys := tysG G) (ci := 10) (v := .ref zz) (C := RX10) (T := TX10) (N := 8) hx hb hts iX10 hown hG.1 hP 0 rfl rfl 7 (Nat.le_of_ble_eq_true rfl) (hts _ tw_2_48) (fun _ h9 => h9) rfl dX10_again_33 ?_
        refine lv_iload_n hx hb dX10_again_36 rfl (lv_at hl 1 rfl) ?_
        refine my_aald hx hb hG.1 hP 15 5 rfl rfl (b := l0) rfl (by rw [c4]; exact vpi (by decide)) (by rw [c4]; rfl) dX10_again_37 ?_
        refine va_get (D := G.1) (cl := vwCl) (tys := tysG G) (ci := 8) (v := .ref (b0 0)) (C := RX8) (T := TX8) (N := 3) hx hb hts iX8 hown hG.1 hP 16 rfl rfl 0 (Nat.le_of_ble_eq_true rfl) (hts _ tw_2_30) (fun _ h9 => h9) rfl dX10_again_38 ?_
        obtain ⟨r6, hc7, h⟩ := bd_ex h
        refine sl_V (q0 := 2) (ci := 1) (C := RX1) K (mX1_copyFrom l G F bb b0 σbb σb0 hc7) tw_3_34 tw_1_5 tw_3_32 tw_3_33 tw_4_78 cdX1_copyFrom ⟨Nat.le_of_ble_eq_true rfl, Nat.le_of_ble_eq_true rfl⟩ hP hD hS [2, 7] rfl rfl rfl rfl rfl rfl rfl hl.1 (Nat.le_of_ble_eq_true rfl) ⟨Nat.zero_le _, Nat.zero_le _⟩ dX10_again_41 (fun H locs hP hD hS => ?_)
        have hP : va_P G.1 vwCl (List.flatten [wM mm mm_text mm_reader ff (aa 0) mm_seen (ss 0) mm_rows zz, wF ff (bb 0) ff_ground, wB G bb r6, wS G ss σss, wA G aa σaa, wZ G zz l0 l1, wL l0 (b0 0) (s0 0) σl0, wB G b0 σb0, wS G s0 σs0, wL l1 (b1 0) (s1 0) σl1, wB G b1 σb1, wS G s1 σs1]) H := hP
        have hD : va_D A (List.flatten [wM mm mm_text mm_reader ff (aa 0) mm_seen (ss 0) mm_rows zz, wF ff (bb 0) ff_ground, wB G bb r6, wS G ss σss, wA G aa σaa, wZ G zz l0 l1, wL l0 (b0 0) (s0 0) σl0, wB G b0 σb0, wS G s0 σs0, wL l1 (b1 0) (s1 0) σl1, wB G b1 σb1, wS G s1 σs1]) := hD
        refine lv_aload_n hx hb dX10_again_44 rfl (lv_at hl 0 rfl) ?_
        refine va_get (D := G.1) (cl := vwCl) (tys := tysG G) (ci := 10) (v := .ref (ss 0)) (C := RX10) (T := TX10) (N := 8) hx hb hts iX10 hown hG.1 hP 0 rfl rfl 5 (Nat.le_of_ble_eq_true rfl) (hts _ tw_2_46) (fun _ h9 => h9) rfl dX10_again_45 ?_
        refine lv_aload_n hx hb dX10_again_48 rfl (lv_at hl 0 rfl) ?_
        refine va_get (D := G.1) (cl := vwCl) (tys := tysG G) (ci := 10) (v := .ref zz) (C := RX10) (T := TX10) (N := 8) hx hb hts iX10 hown hG.1 hP 0 rfl rfl 7 (Nat.le_of_ble_eq_true rfl) (hts _ tw_2_48) (fun _ h9 => h9) rfl dX10_again_49 ?_
        refine lv_iload_n hx hb dX10_again_52 rfl (lv_at hl 1 rfl) ?_
        refine my_aald hx hb hG.1 hP 15 5 rfl rfl (b := l0) rfl (by rw [c4]; exact vpi (by decide)) (by rw [c4]; rfl) dX10_again_53 ?_
        refine va_get (D := G.1) (cl := vwCl) (tys := tysG G) (ci := 8) (v := .ref (s0 0)) (C := RX8) (T := TX8) (N := 3) hx hb hts iX8 hown hG.1 hP 16 rfl rfl 1 (Nat.le_of_ble_eq_true rfl) (hts _ tw_2_32) (fun _ h9 => h9) rfl dX10_again_54 ?_
        obtain ⟨r8, hc9, h⟩ := bd_ex h
        refine sl_V (q0 := 6) (ci := 7) (C := RX7) K (mX7_copyFrom l G F ss s0 σss σs0 hc9) tw_4_82 tw_1_9 tw_4_80 tw_4_81 tw_4_79 cdX7_copyFrom ⟨Nat.le_of_ble_eq_true rfl, Nat.le_of_ble_eq_true rfl⟩ hP hD hS [3, 8] rfl rfl rfl rfl rfl rfl rfl hl.1 (Nat.le_of_ble_eq_true rfl) ⟨Nat.zero_le _, Nat.zero_le _⟩ dX10_again_57 (fun H locs hP hD hS => ?_)
        have hP : va_P G.1 vwCl (List.flatten [wM mm mm_text mm_reader ff (aa 0) mm_seen (ss 0) mm_rows zz, wF ff (bb 0) ff_ground, wB G bb r6, wS G ss r8, wA G aa σaa, wZ G zz l0 l1, wL l0 (b0 0) (s0 0) σl0, wB G b0 σb0, wS G s0 σs0, wL l1 (b1 0) (s1 0) σl1, wB G b1 σb1, wS G s1 σs1]) H := hP
        have hD : va_D A (List.flatten [wM mm mm_text mm_reader ff (aa 0) mm_seen (ss 0) mm_rows zz, wF ff (bb 0) ff_ground, wB G bb r6, wS G ss r8, wA G aa σaa, wZ G zz l0 l1, wL l0 (b0 0) (s0 0) σl0, wB G b0 σb0, wS G s0 σs0, wL l1 (b1 0) (s1 0) σl1, wB G b1 σb1, wS G s1 σs1]) := hD
        refine lv_aload_n hx hb dX10_again_60 rfl (lv_at hl 0 rfl) ?_
        refine va_get (D := G.1) (cl := vwCl) (tys := tysG G) (ci := 10) (v := .ref (aa 0)) (C := RX10) (T := TX10) (N := 8) hx hb hts iX10 hown hG.1 hP 0 rfl rfl 3 (Nat.le_of_ble_eq_true rfl) (hts _ tw_2_44) (fun _ h9 => h9) rfl dX10_again_61 ?_
        obtain ⟨r10, hc11, h⟩ := bd_ex h
        refine sl_V (q0 := 9) (ci := 0) (C := RX0) K (mX0_forget l G F aa σaa hc11) tw_3_42 tw_1_7 tw_3_40 tw_3_41 tw_3_39 cdX0_forget ⟨Nat.le_of_ble_eq_true rfl, Nat.le_of_ble_eq_true rfl⟩ hP hD hS [4] rfl rfl rfl rfl rfl rfl rfl hl.1 (Nat.le_of_ble_eq_true rfl) ⟨Nat.zero_le _, Nat.zero_le _⟩ dX10_again_64 (fun H locs hP hD hS => ?_)
        have hP : va_P G.1 vwCl (List.flatten [wM mm mm_text mm_reader ff (aa 0) mm_seen (ss 0) mm_rows zz, wF ff (bb 0) ff_ground, wB G bb r6, wS G ss r8, wA G aa r10, wZ G zz l0 l1, wL l0 (b0 0) (s0 0) σl0, wB G b0 σb0, wS G s0 σs0, wL l1 (b1 0) (s1 0) σl1, wB G b1 σb1, wS G s1 σs1]) H := hP
        have hD : va_D A (List.flatten [wM mm mm_text mm_reader ff (aa 0) mm_seen (ss 0) mm_rows zz, wF ff (bb 0) ff_ground, wB G bb r6, wS G ss r8, wA G aa r10, wZ G zz l0 l1, wL l0 (b0 0) (s0 0) σl0, wB G b0 σb0, wS G s0 σs0, wL l1 (b1 0) (s1 0) σl1, wB G b1 σb1, wS G s1 σs1]) := hD
        refine lv_aload_n hx hb dX10_again_67 rfl (lv_at hl 0 rfl) ?_
        refine va_get (D := G.1) (cl := vwCl) (tys := tysG G) (ci := 10) (v := .ref ff) (C := RX10) (T := TX10) (N := 8) hx hb hts iX10 hown hG.1 hP 0 rfl rfl 2 (Nat.le_of_ble_eq_true rfl) (hts _ tw_2_43) (fun _ h9 => h9) rfl dX10_again_68 ?_
        refine va_get (D := G.1) (cl := vwCl) (tys := tysG G) (ci := 2) (v := .ref (bb 0)) (C := RX2) (T := TX2) (N := 2) hx hb hts iX2 hown hG.1 hP 1 rfl rfl 0 (Nat.le_of_ble_eq_true rfl) (hts _ tw_1_125) (fun _ h9 => h9) rfl dX10_again_71 ?_
        refine va_get (D := G.1) (cl := vwCl) (tys := tysG G) (ci := 1) (v := .int (r6.1 3)) (C := RX1) (T := TX1) (N := 4) hx hb hts iX1 hown hG.1 hP 2 rfl rfl 3 (Nat.le_of_ble_eq_true rfl) (hts _ tw_1_77) (fun _ h9 => h9) rfl dX10_again_74 ?_
        cases h
        exact rt_i K hP hD hS dX10_again_77
      · have h := if_t c5 h
        refine lv_bipush (v := -3) hx hb dX10_again_22 lb_m3 ?_
        cases h
        exact rt_i K hP hD hS dX10_again_24
    have h := if_f c4 h
    by_cases c12 : x1 = 1
    · have h := if_t c12 h
      refine my_aald hx hb hG.1 hP 15 5 rfl rfl (b := l1) rfl (by rw [c12]; exact vpi (by decide)) (by rw [c12]; rfl) dX10_again_15 ?_
      refine va_get (D := G.1) (cl := vwCl) (tys := tysG G) (ci := 8) (v := .int (σl1.1 2)) (C := RX8) (T := TX8) (N := 3) hx hb hts iX8 hown hG.1 hP 24 rfl rfl 2 (Nat.le_of_ble_eq_true rfl) (hts _ tw_2_33) (fun _ h9 => h9) rfl dX10_again_16 ?_
      refine lv_if_ne (tgt := 25) hx hb dX10_again_19 (by decide) (fun c13 => ?_) (fun c13 => ?_)
      · have h := if_f c13 h
        refine lv_aload_n hx hb dX10_again_25 rfl (lv_at hl 0 rfl) ?_
        refine va_get (D := G.1) (cl := vwCl) (tys := tysG G) (ci := 10) (v := .ref ff) (C := RX10) (T := TX10) (N := 8) hx hb hts iX10 hown hG.1 hP 0 rfl rfl 2 (Nat.le_of_ble_eq_true rfl) (hts _ tw_2_43) (fun _ h9 => h9) rfl dX10_again_26 ?_
        refine va_get (D := G.1) (cl := vwCl) (tys := tysG G) (ci := 2) (v := .ref (bb 0)) (C := RX2) (T := TX2) (N := 2) hx hb hts iX2 hown hG.1 hP 1 rfl rfl 0 (Nat.le_of_ble_eq_true rfl) (hts _ tw_1_125) (fun _ h9 => h9) rfl dX10_again_29 ?_
        refine lv_aload_n hx hb dX10_again_32 rfl (lv_at hl 0 rfl) ?_
        refine va_get (D := G.1) (cl := vwCl) (tys := tysG G) (ci := 10) (v := .ref zz) (C := RX10) (T := TX10) (N := 8) hx hb hts iX10 hown hG.1 hP 0 rfl rfl 7 (Nat.le_of_ble_eq_true rfl) (hts _ tw_2_48) (fun _ h9 => h9) rfl dX10_again_33 ?_
        refine lv_iload_n hx hb dX10_again_36 rfl (lv_at hl 1 rfl) ?_
        refine my_aald hx hb hG.1 hP 15 5 rfl rfl (b := l1) rfl (by rw [c12]; exact vpi (by decide)) (by rw [c12]; rfl) dX10_again_37 ?_
        refine va_get (D := G.1) (cl := vwCl) (tys := tysG G) (ci := 8) (v := .ref (b1 0)) (C := RX8) (T := TX8) (N := 3) hx hb hts iX8 hown hG.1 hP 24 rfl rfl 0 (Nat.le_of_ble_eq_true rfl) (hts _ tw_2_30) (fun _ h9 => h9) rfl dX10_again_38 ?_
        obtain ⟨r14, hc15, h⟩ := bd_ex h
        refine sl_V (q0 := 2) (ci := 1) (C := RX1) K (mX1_copyFrom l G F bb b1 σbb σb1 hc15) tw_3_34 tw_1_5 tw_3_32 tw_3_33 tw_4_78 cdX1_copyFrom ⟨Nat.le_of_ble_eq_true rfl, Nat.le_of_ble_eq_true rfl⟩ hP hD hS [2, 10] rfl rfl rfl rfl rfl rfl rfl hl.1 (Nat.le_of_ble_eq_true rfl) ⟨Nat.zero_le _, Nat.zero_le _⟩ dX10_again_41 (fun H locs hP hD hS => ?_)
        have hP : va_P G.1 vwCl (List.flatten [wM mm mm_text mm_reader ff (aa 0) mm_seen (ss 0) mm_rows zz, wF ff (bb 0) ff_ground, wB G bb r14, wS G ss σss, wA G aa σaa, wZ G zz l0 l1, wL l0 (b0 0) (s0 0) σl0, wB G b0 σb0, wS G s0 σs0, wL l1 (b1 0) (s1 0) σl1, wB G b1 σb1, wS G s1 σs1]) H := hP
        have hD : va_D A (List.flatten [wM mm mm_text mm_reader ff (aa 0) mm_seen (ss 0) mm_rows zz, wF ff (bb 0) ff_ground, wB G bb r14, wS G ss σss, wA G aa σaa, wZ G zz l0 l1, wL l0 (b0 0) (s0 0) σl0, wB G b0 σb0, wS G s0 σs0, wL l1 (b1 0) (s1 0) σl1, wB G b1 σb1, wS G s1 σs1]) := hD
        refine lv_aload_n hx hb dX10_again_44 rfl (lv_at hl 0 rfl) ?_
        refine va_get (D := G.1) (cl := vwCl) (tys := tysG G) (ci := 10) (v := .ref (ss 0)) (C := RX10) (T := TX10) (N := 8) hx hb hts iX10 hown hG.1 hP 0 rfl rfl 5 (Nat.le_of_ble_eq_true rfl) (hts _ tw_2_46) (fun _ h9 => h9) rfl dX10_again_45 ?_
        refine lv_aload_n hx hb dX10_again_48 rfl (lv_at hl 0 rfl) ?_
        refine va_get (D := G.1) (cl := vwCl) (tys := tysG G) (ci := 10) (v := .ref zz) (C := RX10) (T := TX10) (N := 8) hx hb hts iX10 hown hG.1 hP 0 rfl rfl 7 (Nat.le_of_ble_eq_true rfl) (hts _ tw_2_48) (fun _ h9 => h9) rfl dX10_again_49 ?_
        refine lv_iload_n hx hb dX10_again_52 rfl (lv_at hl 1 rfl) ?_
        refine my_aald hx hb hG.1 hP 15 5 rfl rfl (b := l1) rfl (by rw [c12]; exact vpi (by decide)) (by rw [c12]; rfl) dX10_again_53 ?_
        refine va_get (D := G.1) (cl := vwCl) (tys := tysG G) (ci := 8) (v := .ref (s1 0)) (C := RX8) (T := TX8) (N := 3) hx hb hts iX8 hown hG.1 hP 24 rfl rfl 1 (Nat.le_of_ble_eq_true rfl) (hts _ tw_2_32) (fun _ h9 => h9) rfl dX10_again_54 ?_
        obtain ⟨r16, hc17, h⟩ := bd_ex h
        refine sl_V (q0 := 6) (ci := 7) (C := RX7) K (mX7_copyFrom l G F ss s1 σss σs1 hc17) tw_4_82 tw_1_9 tw_4_80 tw_4_81 tw_4_79 cdX7_copyFrom ⟨Nat.le_of_ble_eq_true rfl, Nat.le_of_ble_eq_true rfl⟩ hP hD hS [3, 11] rfl rfl rfl rfl rfl rfl rfl hl.1 (Nat.le_of_ble_eq_true rfl) ⟨Nat.zero_le _, Nat.zero_le _⟩ dX10_again_57 (fun H locs hP hD hS => ?_)
        have hP : va_P G.1 vwCl (List.flatten [wM mm mm_text mm_reader ff (aa 0) mm_seen (ss 0) mm_rows zz, wF ff (bb 0) ff_ground, wB G bb r14, wS G ss r16, wA G aa σaa, wZ G zz l0 l1, wL l0 (b0 0) (s0 0) σl0, wB G b0 σb0, wS G s0 σs0, wL l1 (b1 0) (s1 0) σl1, wB G b1 σb1, wS G s1 σs1]) H := hP
        have hD : va_D A (List.flatten [wM mm mm_text mm_reader ff (aa 0) mm_seen (ss 0) mm_rows zz, wF ff (bb 0) ff_ground, wB G bb r14, wS G ss r16, wA G aa σaa, wZ G zz l0 l1, wL l0 (b0 0) (s0 0) σl0, wB G b0 σb0, wS G s0 σs0, wL l1 (b1 0) (s1 0) σl1, wB G b1 σb1, wS G s1 σs1]) := hD
        refine lv_aload_n hx hb dX10_again_60 rfl (lv_at hl 0 rfl) ?_
        refine va_get (D := G.1) (cl := vwCl) (tys := tysG G) (ci := 10) (v := .ref (aa 0)) (C := RX10) (T := TX10) (N := 8) hx hb hts iX10 hown hG.1 hP 0 rfl rfl 3 (Nat.le_of_ble_eq_true rfl) (hts _ tw_2_44) (fun _ h9 => h9) rfl dX10_again_61 ?_
        obtain ⟨r18, hc19, h⟩ := bd_ex h
        refine sl_V (q0 := 9) (ci := 0) (C := RX0) K (mX0_forget l G F aa σaa hc19) tw_3_42 tw_1_7 tw_3_40 tw_3_41 tw_3_39 cdX0_forget ⟨Nat.le_of_ble_eq_true rfl, Nat.le_of_ble_eq_true rfl⟩ hP hD hS [4] rfl rfl rfl rfl rfl rfl rfl hl.1 (Nat.le_of_ble_eq_true rfl) ⟨Nat.zero_le _, Nat.zero_le _⟩ dX10_again_64 (fun H locs hP hD hS => ?_)
        have hP : va_P G.1 vwCl (List.flatten [wM mm mm_text mm_reader ff (aa 0) mm_seen (ss 0) mm_rows zz, wF ff (bb 0) ff_ground, wB G bb r14, wS G ss r16, wA G aa r18, wZ G zz l0 l1, wL l0 (b0 0) (s0 0) σl0, wB G b0 σb0, wS G s0 σs0, wL l1 (b1 0) (s1 0) σl1, wB G b1 σb1, wS G s1 σs1]) H := hP
        have hD : va_D A (List.flatten [wM mm mm_text mm_reader ff (aa 0) mm_seen (ss 0) mm_rows zz, wF ff (bb 0) ff_ground, wB G bb r14, wS G ss r16, wA G aa r18, wZ G zz l0 l1, wL l0 (b0 0) (s0 0) σl0, wB G b0 σb0, wS G s0 σs0, wL l1 (b1 0) (s1 0) σl1, wB G b1 σb1, wS G s1 σs1]) := hD
        refine lv_aload_n hx hb dX10_again_67 rfl (lv_at hl 0 rfl) ?_
        refine va_get (D := G.1) (cl := vwCl) (tys := tysG G) (ci := 10) (v := .ref ff) (C := RX10) (T := TX10) (N := 8) hx hb hts iX10 hown hG.1 hP 0 rfl rfl 2 (Nat.le_of_ble_eq_true rfl) (hts _ tw_2_43) (fun _ h9 => h9) rfl dX10_again_68 ?_
        refine va_get (D := G.1) (cl := vwCl) (tys := tysG G) (ci := 2) (v := .ref (bb 0)) (C := RX2) (T := TX2) (N := 2) hx hb hts iX2 hown hG.1 hP 1 rfl rfl 0 (Nat.le_of_ble_eq_true rfl) (hts _ tw_1_125) (fun _ h9 => h9) rfl dX10_again_71 ?_
        refine va_get (D := G.1) (cl := vwCl) (tys := tysG G) (ci := 1) (v := .int (r14.1 3)) (C := RX1) (T := TX1) (N := 4) hx hb hts iX1 hown hG.1 hP 2 rfl rfl 3 (Nat.le_of_ble_eq_true rfl) (hts _ tw_1_77) (fun _ h9 => h9) rfl dX10_again_74 ?_
        cases h
        exact rt_i K hP hD hS dX10_again_77
      · have h := if_t c13 h
        refine lv_bipush (v := -3) hx hb dX10_again_22 lb_m3 ?_
        cases h
        exact rt_i K hP hD hS dX10_again_24
    have h := if_f c12 h
    cases h
  · have h := if_t c3 h
    refine lv_iconst (v := -1) hx hb dX10_again_8 li_m1 ?_
    cases h
    exact rt_i K hP hD hS dX10_again_9
def fX10_count (F : Nat) (σtt : ST) (σbb : ST) (σdd : ST) (σss : ST) (σaa : ST) (x1 : Int32) : Option (Int32) :=
  if x1 = 0 then
    some (σtt.1 1)
  else
  if x1 = 1 then
    some (σbb.1 3)
  else
  if x1 = 2 then
    some (σdd.1 3)
  else
  if x1 = 3 then
    (fX1_allHeads F σbb).bind fun r5 =>
    some r5
  else
  if x1 = 4 then
    some (σss.1 2)
  else
  if x1 = 5 then
    some (σaa.1 6)
  else
  if x1 = 6 then
    some (σdd.1 4)
  else
  if x1 = 7 then
    some (σdd.1 5)
  else
    some (-2 : Int32)
theorem cdX10_count : CallD yX10_count 1 := by decide +kernel
set_option maxHeartbeats 4000000 in
set_option maxRecDepth 100000 in
theorem mX10_count (l : Launch) (G : GP) (F : Nat) (mm : Nat) (tt : Nat → Nat) (ff : Nat) (bb : Nat → Nat) (dd : Nat → Nat) (ss : Nat → Nat) (aa : Nat → Nat) (mm_reader : Nat) (mm_seen : Nat) (mm_rows : Nat) (mm_slots : Nat) (σtt : ST) (σbb : ST) (σdd : ST) (σss : ST) (σaa : ST) (x1 : Int32) {r : Int32} (h : fX10_count F σtt σbb σdd σss σaa x1 = some r) : CC l G yX10_count cX10_count 2 (some .int) 3 [.ref mm, .int x1] (List.flatten [wM mm (tt 0) mm_reader ff (aa 0) mm_seen (ss 0) mm_rows mm_slots, wT G tt σtt, wF ff (bb 0) (dd 0), wB G bb σbb, wD G dd σdd, wS G ss σss, wA G aa σaa]) (List.flatten [wM mm (tt 0) mm_reader ff (aa 0) mm_seen (ss 0) mm_rows mm_slots, wT G tt σtt, wF ff (bb 0) (dd 0), wB G bb σbb, wD G dd σdd, wS G ss σss, wA G aa σaa]) (some (.int r)) := by
  refine CC.of (by decide) (Nat.le_of_ble_eq_true rfl) ?_
  intro p e s m below meth c A K hP hD hS ls hl
  obtain ⟨hx, hb, hr, hml, hts, hown, hlocks, hA, hG⟩ := id K
  have hl : lv_has ls 2 [(0, .ref mm), (1, .int x1)] := hl
  unfold fX10_count at h
  refine lv_iload_n hx hb dX10_count_0 rfl (lv_at hl 1 rfl) ?_
  by_cases c1 : x1 = 0
  · have h := if_t c1 h
    refine lv_tableIn (off := 47) (tgt := 48) hx hb dX10_count_1 (by rw [c1]; decide) (by rw [c1]; decide) (by rw [c1] <;> rfl) (by decide) ?_
    refine lv_aload_n hx hb dX10_count_48 rfl (lv_at hl 0 rfl) ?_
    refine va_get (D := G.1) (cl := vwCl) (tys := tysG G) (ci := 10) (v := .ref (tt 0)) (C := RX10) (T := TX10) (N := 8) hx hb hts iX10 hown hG.1 hP 0 rfl rfl 0 (Nat.le_of_ble_eq_true rfl) (hts _ tw_2_41) (fun _ h9 => h9) rfl dX10_count_49 ?_
    refine va_get (D := G.1) (cl := vwCl) (tys := tysG G) (ci := 9) (v := .int (σtt.1 1)) (C := RX9) (T := TX9) (N := 2) hx hb hts iX9 hown hG.1 hP 1 rfl rfl 1 (Nat.le_of_ble_eq_true rfl) (hts _ tw_1_37) (fun _ h9 => h9) rfl dX10_count_52 ?_
    cases h
    exact rt_i K hP hD hS dX10_count_55
  have h := if_f c1 h
  by_cases c2 : x1 = 1
  · have h := if_t c2 h
    refine lv_tableIn (off := 55) (tgt := 56) hx hb dX10_count_1 (by rw [c2]; decide) (by rw [c2]; decide) (by rw [c2] <;> rfl) (by decide) ?_
    refine lv_aload_n hx hb dX10_count_56 rfl (lv_at hl 0 rfl) ?_
    refine va_get (D := G.1) (cl := vwCl) (tys := tysG G) (ci := 10) (v := .ref ff) (C := RX10) (T := TX10) (N := 8) hx hb hts iX10 hown hG.1 hP 0 rfl rfl 2 (Nat.le_of_ble_eq_true rfl) (hts _ tw_2_43) (fun _ h9 => h9) rfl dX10_count_57 ?_
    refine va_get (D := G.1) (cl := vwCl) (tys := tysG G) (ci := 2) (v := .ref (bb 0)) (C := RX2) (T := TX2) (N := 2) hx hb hts iX2 hown hG.1 hP 3 rfl rfl 0 (Nat.le_of_ble_eq_true rfl) (hts _ tw_1_125) (fun _ h9 => h9) rfl dX10_count_60 ?_
    refine va_get (D := G.1) (cl := vwCl) (tys := tysG G) (ci := 1) (v := .int (σbb.1 3)) (C := RX1) (T := TX1) (N := 4) hx hb hts iX1 hown hG.1 hP 4 rfl rfl 3 (Nat.le_of_ble_eq_true rfl) (hts _ tw_1_77) (fun _ h9 => h9) rfl dX10_count_63 ?_
    cases h
    exact rt_i K hP hD hS dX10_count_66
  have h := if_f c2 h
  by_cases c3 : x1 = 2
  · have h := if_t c3 h
    refine lv_tableIn (off := 66) (tgt := 67) hx hb dX10_count_1 (by rw [c3]; decide) (by rw [c3]; decide) (by rw [c3] <;> rfl) (by decide) ?_
    refine lv_aload_n hx hb dX10_count_67 rfl (lv_at hl 0 rfl) ?_
    refine va_get (D := G.1) (cl := vwCl) (tys := tysG G) (ci := 10) (v := .ref ff) (C := RX10) (T := TX10) (N := 8) hx hb hts iX10 hown hG.1 hP 0 rfl rfl 2 (Nat.le_of_ble_eq_true rfl) (hts _ tw_2_43) (fun _ h9 => h9) rfl dX10_count_68 ?_
    refine va_get (D := G.1) (cl := vwCl) (tys := tysG G) (ci := 2) (v := .ref (dd 0)) (C := RX2) (T := TX2) (N := 2) hx hb hts iX2 hown hG.1 hP 3 rfl rfl 1 (Nat.le_of_ble_eq_true rfl) (hts _ tw_1_129) (fun _ h9 => h9) rfl dX10_count_71 ?_
    refine va_get (D := G.1) (cl := vwCl) (tys := tysG G) (ci := 4) (v := .int (σdd.1 3)) (C := RX4) (T := TX4) (N := 6) hx hb hts iX4 hown hG.1 hP 8 rfl rfl 3 (Nat.le_of_ble_eq_true rfl) (hts _ tw_1_103) (fun _ h9 => h9) rfl dX10_count_74 ?_
    cases h
    exact rt_i K hP hD hS dX10_count_77
  have h := if_f c3 h
  by_cases c4 : x1 = 3
  · have h := if_t c4 h
    refine lv_tableIn (off := 77) (tgt := 78) hx hb dX10_count_1 (by rw [c4]; decide) (by rw [c4]; decide) (by rw [c4] <;> rfl) (by decide) ?_
    refine lv_aload_n hx hb dX10_count_78 rfl (lv_at hl 0 rfl) ?_
    refine va_get (D := G.1) (cl := vwCl) (tys := tysG G) (ci := 10) (v := .ref ff) (C := RX10) (T := TX10) (N := 8) hx hb hts iX10 hown hG.1 hP 0 rfl rfl 2 (Nat.le_of_ble_eq_true rfl) (hts _ tw_2_43) (fun _ h9 => h9) rfl dX10_count_79 ?_
    refine va_get (D := G.1) (cl := vwCl) (tys := tysG G) (ci := 2) (v := .ref (bb 0)) (C := RX2) (T := TX2) (N := 2) hx hb hts iX2 hown hG.1 hP 3 rfl rfl 0 (Nat.le_of_ble_eq_true rfl) (hts _ tw_1_125) (fun _ h9 => h9) rfl dX10_count_82 ?_
    obtain ⟨r5, hc6, h⟩ := bd_ex h
    refine sl_V (q0 := 4) (ci := 1) (C := RX1) K (mX1_allHeads l G F bb σbb hc6) tw_3_206 tw_1_5 tw_3_204 tw_3_205 tw_3_203 cdX1_allHeads ⟨Nat.le_of_ble_eq_true rfl, Nat.le_of_ble_eq_true rfl⟩ hP hD hS [3] rfl rfl rfl rfl rfl rfl rfl hl.1 (Nat.le_of_ble_eq_true rfl) ⟨Nat.zero_le _, Nat.zero_le _⟩ dX10_count_85 (fun H locs hP hD hS => ?_)
    have hP : va_P G.1 vwCl (List.flatten [wM mm (tt 0) mm_reader ff (aa 0) mm_seen (ss 0) mm_rows mm_slots, wT G tt σtt, wF ff (bb 0) (dd 0), wB G bb σbb, wD G dd σdd, wS G ss σss, wA G aa σaa]) H := hP
    have hD : va_D A (List.flatten [wM mm (tt 0) mm_reader ff (aa 0) mm_seen (ss 0) mm_rows mm_slots, wT G tt σtt, wF ff (bb 0) (dd 0), wB G bb σbb, wD G dd σdd, wS G ss σss, wA G aa σaa]) := hD
    cases h
    exact rt_i K hP hD hS dX10_count_88
  have h := if_f c4 h
  by_cases c7 : x1 = 4
  · have h := if_t c7 h
    refine lv_tableIn (off := 88) (tgt := 89) hx hb dX10_count_1 (by rw [c7]; decide) (by rw [c7]; decide) (by rw [c7] <;> rfl) (by decide) ?_
    refine lv_aload_n hx hb dX10_count_89 rfl (lv_at hl 0 rfl) ?_
    refine va_get (D := G.1) (cl := vwCl) (tys := tysG G) (ci := 10) (v := .ref (ss 0)) (C := RX10) (T := TX10) (N := 8) hx hb hts iX10 hown hG.1 hP 0 rfl rfl 5 (Nat.le_of_ble_eq_true rfl) (hts _ tw_2_46) (fun _ h9 => h9) rfl dX10_count_90 ?_
    refine va_get (D := G.1) (cl := vwCl) (tys := tysG G) (ci := 7) (v := .int (σss.1 2)) (C := RX7) (T := TX7) (N := 3) hx hb hts iX7 hown hG.1 hP 19 rfl rfl 2 (Nat.le_of_ble_eq_true rfl) (hts _ tw_1_218) (fun _ h9 => h9) rfl dX10_count_93 ?_
    cases h
    exact rt_i K hP hD hS dX10_count_96
  have h := if_f c7 h
  by_cases c8 : x1 = 5
  · have h := if_t c8 h
    refine lv_tableIn (off := 96) (tgt := 97) hx hb dX10_count_1 (by rw [c8]; decide) (by rw [c8]; decide) (by rw [c8] <;> rfl) (by decide) ?_
    refine lv_aload_n hx hb dX10_count_97 rfl (lv_at hl 0 rfl) ?_
    refine va_get (D := G.1) (cl := vwCl) (tys := tysG G) (ci := 10) (v := .ref (aa 0)) (C := RX10) (T := TX10) (N := 8) hx hb hts iX10 hown hG.1 hP 0 rfl rfl 3 (Nat.le_of_ble_eq_true rfl) (hts _ tw_2_44) (fun _ h9 => h9) rfl dX10_count_98 ?_
    refine va_get (D := G.1) (cl := vwCl) (tys := tysG G) (ci := 0) (v := .int (σaa.1 6)) (C := RX0) (T := TX0) (N := 7) hx hb hts iX0 hown hG.1 hP 22 rfl rfl 6 (Nat.le_of_ble_eq_true rfl) (hts _ tw_1_167) (fun _ h9 => h9) rfl dX10_count_101 ?_
    cases h
    exact rt_i K hP hD hS dX10_count_104
  have h := if_f c8 h
  by_cases c9 : x1 = 6
  · have h := if_t c9 h
    refine lv_tableIn (off := 104) (tgt := 105) hx hb dX10_count_1 (by rw [c9]; decide) (by rw [c9]; decide) (by rw [c9] <;> rfl) (by decide) ?_
    refine lv_aload_n hx hb dX10_count_105 rfl (lv_at hl 0 rfl) ?_
    refine va_get (D := G.1) (cl := vwCl) (tys := tysG G) (ci := 10) (v := .ref ff) (C := RX10) (T := TX10) (N := 8) hx hb hts iX10 hown hG.1 hP 0 rfl rfl 2 (Nat.le_of_ble_eq_true rfl) (hts _ tw_2_43) (fun _ h9 => h9) rfl dX10_count_106 ?_
    refine va_get (D := G.1) (cl := vwCl) (tys := tysG G) (ci := 2) (v := .ref (dd 0)) (C := RX2) (T := TX2) (N := 2) hx hb hts iX2 hown hG.1 hP 3 rfl rfl 1 (Nat.le_of_ble_eq_true rfl) (hts _ tw_1_129) (fun _ h9 => h9) rfl dX10_count_109 ?_
    refine va_get (D := G.1) (cl := vwCl) (tys := tysG G) (ci := 4) (v := .int (σdd.1 4)) (C := RX4) (T := TX4) (N := 6) hx hb hts iX4 hown hG.1 hP 8 rfl rfl 4 (Nat.le_of_ble_eq_true rfl) (hts _ tw_1_106) (fun _ h9 => h9) rfl dX10_count_112 ?_
    cases h
    exact rt_i K hP hD hS dX10_count_115
  have h := if_f c9 h
  by_cases c10 : x1 = 7
  · have h := if_t c10 h
    refine lv_tableIn (off := 115) (tgt := 116) hx hb dX10_count_1 (by rw [c10]; decide) (by rw [c10]; decide) (by rw [c10] <;> rfl) (by decide) ?_
    refine lv_aload_n hx hb dX10_count_116 rfl (lv_at hl 0 rfl) ?_
    refine va_get (D := G.1) (cl := vwCl) (tys := tysG G) (ci := 10) (v := .ref ff) (C := RX10) (T := TX10) (N := 8) hx hb hts iX10 hown hG.1 hP 0 rfl rfl 2 (Nat.le_of_ble_eq_true rfl) (hts _ tw_2_43) (fun _ h9 => h9) rfl dX10_count_117 ?_
    refine va_get (D := G.1) (cl := vwCl) (tys := tysG G) (ci := 2) (v := .ref (dd 0)) (C := RX2) (T := TX2) (N := 2) hx hb hts iX2 hown hG.1 hP 3 rfl rfl 1 (Nat.le_of_ble_eq_true rfl) (hts _ tw_1_129) (fun _ h9 => h9) rfl dX10_count_120 ?_
    refine va_get (D := G.1) (cl := vwCl) (tys := tysG G) (ci := 4) (v := .int (σdd.1 5)) (C := RX4) (T := TX4) (N := 6) hx hb hts iX4 hown hG.1 hP 8 rfl rfl 5 (Nat.le_of_ble_eq_true rfl) (hts _ tw_1_109) (fun _ h9 => h9) rfl dX10_count_123 ?_
    cases h
    exact rt_i K hP hD hS dX10_count_126
  have h := if_f c10 h
  refine lv_tableOut (tgt := 127) hx hb dX10_count_1 (by have n0 := lv_neT c1 (a := 0) rfl; have n1 := lv_neT c2 (a := 1) rfl; have n2 := lv_neT c3 (a := 2) rfl; have n3 := lv_neT c4 (a := 3) rfl; have n4 := lv_neT c7 (a := 4) rfl; have n5 := lv_neT c8 (a := 5) rfl; have n6 := lv_neT c9 (a := 6) rfl; have n7 := lv_neT c10 (a := 7) rfl; omega) (by decide) ?_
  refine lv_bipush (v := -2) hx hb dX10_count_127 lb_m2 ?_
  cases h
  exact rt_i K hP hD hS dX10_count_129
