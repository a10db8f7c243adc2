def fX2_clear (F : Nat) (σbb : ST) (σdd : ST)  : Option (ST × ST) :=
  nm (sI σbb 3 (0 : Int32)) fun (s1 : ST) =>
  (fX4_clear F σdd).bind fun r3 =>
  some (s1, r3)
theorem cdX2_clear : CallD yX2_clear 0 := by decide +kernel
set_option maxHeartbeats 4000000 in
set_option maxRecDepth 100000 in
theorem mX2_clear (l : Launch) (G : GP) (F : Nat) (ff : Nat) (bb : Nat → Nat) (dd : Nat → Nat) (σbb : ST) (σdd : ST)  {r : ST × ST} (h : fX2_clear F σbb σdd  = some r) : CC l G yX2_clear cX2_clear 1 none 2 [.ref ff] (List.flatten [wF ff (bb 0) (dd 0), wB G bb σbb, wD G dd σdd]) (List.flatten [wF ff (bb 0) (dd 0), wB G bb r.1, wD G dd r.2]) none := by
  refine CC.of (by decide) (Nat.le_of_ble_eq_true rfl) ?_
  intro p e s m below meth c A K hP hD hS ls hl
  obtain ⟨hx, hb, hr, hml, hts, hown, hlocks, hA, hG⟩ := id K
  have hl : lv_has ls 1 [(0, .ref ff)] := hl
  unfold fX2_clear at h
  refine lv_aload_n hx hb dX2_clear_0 rfl (lv_at hl 0 rfl) ?_
  refine va_get (D := G.1) (cl := vwCl) (tys := tysG G) (ci := 2) (v := .ref (bb 0)) (C := RX2) (T := TX2) (N := 2) hx hb hts iX2 hown hG.1 hP 0 rfl rfl 0 (Nat.le_of_ble_eq_true rfl) (hts _ tw_1_123) (fun _ h9 => h9) rfl dX2_clear_1 ?_
  refine lv_iconst (v := 0) hx hb dX2_clear_4 li_0 ?_
  obtain ⟨s1, e2, h⟩ := nm_ex h
  refine va_put (D := G.1) (cl := vwCl) (tys := tysG G) (ci := 1) (v := .int (0 : Int32)) (ty := .int) (C := RX1) (T := TX1) (N := 4) hx hb hts iX1 tyX1 tyX1_ok nmX1 hown hG.1 hP hD hS 1 rfl rfl 3 (Nat.le_of_ble_eq_true rfl) (hts _ tw_1_75) (fun _ h9 => h9) rfl (by decide +kernel) rfl rfl (Nat.le_of_ble_eq_true rfl) dX2_clear_5 (fun H locs hP hD hS => ?_)
  have hP : va_P G.1 vwCl (List.flatten [wF ff (bb 0) (dd 0), wB G bb s1, wD G dd σdd]) H := by rw [e2]; exact hP
  have hD : va_D A (List.flatten [wF ff (bb 0) (dd 0), wB G bb s1, wD G dd σdd]) := by rw [e2]; exact hD
  refine lv_aload_n hx hb dX2_clear_8 rfl (lv_at hl 0 rfl) ?_
  refine va_get (D := G.1) (cl := vwCl) (tys := tysG G) (ci := 2) (v := .ref (dd 0)) (C := RX2) (T := TX2) (N := 2) hx hb hts iX2 hown hG.1 hP 0 rfl rfl 1 (Nat.le_of_ble_eq_true rfl) (hts _ tw_1_126) (fun _ h9 => h9) rfl dX2_clear_9 ?_
  obtain ⟨r3, hc4, h⟩ := bd_ex h
  refine sl_V (q0 := 5) (ci := 4) (C := RX4) K (mX4_clear l G F dd σdd hc4) tw_2_93 tw_1_6 tw_2_91 tw_2_92 tw_2_90 cdX4_clear ⟨Nat.le_of_ble_eq_true rfl, Nat.le_of_ble_eq_true rfl⟩ hP hD hS [2] rfl rfl rfl rfl rfl rfl rfl hl.1 (Nat.le_of_ble_eq_true rfl) ⟨Nat.zero_le _, Nat.zero_le _⟩ dX2_clear_12 (fun H locs hP hD hS => ?_)
  have hP : va_P G.1 vwCl (List.flatten [wF ff (bb 0) (dd 0), wB G bb s1, wD G dd r3]) H := hP
  have hD : va_D A (List.flatten [wF ff (bb 0) (dd 0), wB G bb s1, wD G dd r3]) := hD
  cases h
  exact rt_v K hP hD hS dX2_clear_15
def gbX2_darkCells_5 (F : Nat) (σbb : ST) (σdd : ST) (v1 : Int32) (v2 : Int32) (rc : Int32 → Int32 → Option (Int32 × Int32)) (v3 : Int32) (v4 : Int32) : Option (Int32 × Int32) :=
  if (σbb.1 3) ≤ v4 then
    some (v3, v4)
  else
    if v4 < 0 ∨ 8 ≤ v4.toNatClampNeg then none else
    if (σbb.2.1 2 v4.toNatClampNeg) = v2 then
      (fX1_height F σbb v4).bind fun r4 =>
      (fX10_reach F r4 (σbb.2.1 1 v4.toNatClampNeg) v1).bind fun r6 =>
      rc (v3 ||| r6) (v4 + 1)
    else
      rc v3 (v4 + 1)
def gX2_darkCells_5 (F : Nat) (σbb : ST) (σdd : ST) (v1 : Int32) (v2 : Int32) : Nat → Int32 → Int32 → Option (Int32 × Int32)
  | 0, _, _ => none
  | n + 1, v3, v4 => gbX2_darkCells_5 F σbb σdd v1 v2 (gX2_darkCells_5 F σbb σdd v1 v2 n) v3 v4
set_option maxHeartbeats 4000000 in
set_option maxRecDepth 100000 in
theorem kX2_darkCells_5 {p : Program} {l : Launch} {e : Env} {s : State} {m : MethodId} {args : Array Value} {below : List Frame} {meth : Method} {c : Code} {A : Nat → Prop} {Q : State → Prop} {G : GP} (K : Cx p s m meth c G cX2_darkCells RX2 5 (some .int) args A) (F : Nat) (ff : Nat) (bb : Nat → Nat) (dd : Nat → Nat) (σbb : ST) (σdd : ST) (v1 : Int32) (v2 : Int32) {z : Int32 × Int32} (kk : ∀ (H : Heap) (locs : List Loc) (ls : Array Slot), va_P G.1 vwCl (List.flatten [wF ff (bb 0) (dd 0), wB G bb σbb, wD G dd σdd]) H → va_D A (List.flatten [wF ff (bb 0) (dd 0), wB G bb σbb, wD G dd σdd]) → va_S A s.heap H locs → lv_has ls 5 [(0, .ref ff), (1, .int v1), (2, .int v2), (3, .int z.1), (4, .int z.2)] → W p l e (RM 4) s m args below meth c H locs 0 0 Q (F0 m 63 ls [])) :
    ∀ (n : Nat) (v3 : Int32) (v4 : Int32) (H : Heap) (locs : List Loc) (ls : Array Slot), va_P G.1 vwCl (List.flatten [wF ff (bb 0) (dd 0), wB G bb σbb, wD G dd σdd]) H → va_D A (List.flatten [wF ff (bb 0) (dd 0), wB G bb σbb, wD G dd σdd]) → va_S A s.heap H locs → lv_has ls 5 [(0, .ref ff), (1, .int v1), (2, .int v2), (3, .int v3), (4, .int v4)] → gX2_darkCells_5 F σbb σdd v1 v2 n v3 v4 = some z → W p l e (RM 4) s m args below meth c H locs 0 0 Q (F0 m 5 ls []) := by
  obtain ⟨hx, hb, hr, hml, hts, hown, hlocks, hA, hG⟩ := id K
  intro n
  induction n with
  | zero =>
    intro v3 v4 H locs ls hP hD hS hl h
    have h : none = some z := h
    cases h
  | succ n ih =>
    intro v3 v4 H locs ls hP hD hS hl h
    have h : gbX2_darkCells_5 F σbb σdd v1 v2 (gX2_darkCells_5 F σbb σdd v1 v2 n) v3 v4 = some z := h
    unfold gbX2_darkCells_5 at h
    refine lv_iload hx hb dX2_darkCells_5 (lv_at hl 4 rfl) ?_
    refine lv_aload_n hx hb dX2_darkCells_7 rfl (lv_at hl 0 rfl) ?_
    refine va_get (D := G.1) (cl := vwCl) (tys := tysG G) (ci := 2) (v := .ref (bb 0)) (C := RX2) (T := TX2) (N := 2) hx hb hts iX2 hown hG.1 hP 0 rfl rfl 0 (Nat.le_of_ble_eq_true rfl) (hts _ tw_1_123) (fun _ h9 => h9) rfl dX2_darkCells_8 ?_
    refine va_get (D := G.1) (cl := vwCl) (tys := tysG G) (ci := 1) (v := .int (σbb.1 3)) (C := RX1) (T := TX1) (N := 4) hx hb hts iX1 hown hG.1 hP 1 rfl rfl 3 (Nat.le_of_ble_eq_true rfl) (hts _ tw_1_75) (fun _ h9 => h9) rfl dX2_darkCells_11 ?_
    refine lv_icmp_ge (tgt := 63) hx hb dX2_darkCells_14 (by decide) (fun c1 => ?_) (fun c1 => ?_)
    · have h := if_t c1 h
      cases h
      exact kk _ _ _ hP hD hS (lv_sub hl [0, 1, 2, 3, 4] rfl)
    · have h := if_f c1 h
      refine lv_aload_n hx hb dX2_darkCells_17 rfl (lv_at hl 0 rfl) ?_
      refine va_get (D := G.1) (cl := vwCl) (tys := tysG G) (ci := 2) (v := .ref (bb 0)) (C := RX2) (T := TX2) (N := 2) hx hb hts iX2 hown hG.1 hP 0 rfl rfl 0 (Nat.le_of_ble_eq_true rfl) (hts _ tw_1_123) (fun _ h9 => h9) rfl dX2_darkCells_18 ?_
      refine va_get (D := G.1) (cl := vwCl) (tys := tysG G) (ci := 1) (v := .ref (bb 3)) (C := RX1) (T := TX1) (N := 4) hx hb hts iX1 hown hG.1 hP 1 rfl rfl 2 (Nat.le_of_ble_eq_true rfl) (hts _ tw_1_72) (fun _ h9 => h9) rfl dX2_darkCells_21 ?_
      refine lv_iload hx hb dX2_darkCells_24 (lv_at hl 4 rfl) ?_
      obtain ⟨ck2, h⟩ := ck h
      refine va_iald hx hb hG.1 hP 4 0 rfl rfl ck2 dX2_darkCells_26 ?_
      refine lv_iload_n hx hb dX2_darkCells_27 rfl (lv_at hl 2 rfl) ?_
      refine lv_icmp_ne (tgt := 57) hx hb dX2_darkCells_28 (by decide) (fun c3 => ?_) (fun c3 => ?_)
      · have h := if_f c3 h
        refine lv_iinc (v := v4 + 1) (lv' := [(4, .int (v4 + 1)), (0, .ref ff), (1, .int v1), (2, .int v2), (3, .int v3)]) hx hb dX2_darkCells_57 hl (k := 4) rfl (by rw [li_1]) (Nat.le_of_ble_eq_true rfl) rfl (fun ls hl => ?_)
        refine lv_goto (tgt := 5) hx hb dX2_darkCells_60 (by decide) ?_
        exact ih v3 (v4 + 1) _ _ _ hP hD hS (lv_sub hl [1, 2, 3, 4, 0] rfl) h
      · have h := if_t c3 h
        refine lv_iload_n hx hb dX2_darkCells_31 rfl (lv_at hl 3 rfl) ?_
        refine lv_aload_n hx hb dX2_darkCells_32 rfl (lv_at hl 0 rfl) ?_
        refine va_get (D := G.1) (cl := vwCl) (tys := tysG G) (ci := 2) (v := .ref (bb 0)) (C := RX2) (T := TX2) (N := 2) hx hb hts iX2 hown hG.1 hP 0 rfl rfl 0 (Nat.le_of_ble_eq_true rfl) (hts _ tw_1_123) (fun _ h9 => h9) rfl dX2_darkCells_33 ?_
        refine lv_iload hx hb dX2_darkCells_36 (lv_at hl 4 rfl) ?_
        obtain ⟨r4, hc5, h⟩ := bd_ex h
        refine sl_V (q0 := 1) (ci := 1) (C := RX1) K (mX1_height l G F bb σbb v4 hc5) tw_3_54 tw_1_5 tw_3_52 tw_3_53 tw_3_127 cdX1_height ⟨Nat.le_of_ble_eq_true rfl, Nat.le_of_ble_eq_true rfl⟩ hP hD hS [1] rfl rfl rfl rfl rfl rfl rfl hl.1 (Nat.le_of_ble_eq_true rfl) ⟨Nat.zero_le _, Nat.zero_le _⟩ dX2_darkCells_38 (fun H locs hP hD hS => ?_)
        have hP : va_P G.1 vwCl (List.flatten [wF ff (bb 0) (dd 0), wB G bb σbb, wD G dd σdd]) H := hP
        have hD : va_D A (List.flatten [wF ff (bb 0) (dd 0), wB G bb σbb, wD G dd σdd]) := hD
        refine lv_aload_n hx hb dX2_darkCells_41 rfl (lv_at hl 0 rfl) ?_
        refine va_get (D := G.1) (cl := vwCl) (tys := tysG G) (ci := 2) (v := .ref (bb 0)) (C := RX2) (T := TX2) (N := 2) hx hb hts iX2 hown hG.1 hP 0 rfl rfl 0 (Nat.le_of_ble_eq_true rfl) (hts _ tw_1_123) (fun _ h9 => h9) rfl dX2_darkCells_42 ?_
        refine va_get (D := G.1) (cl := vwCl) (tys := tysG G) (ci := 1) (v := .ref (bb 2)) (C := RX1) (T := TX1) (N := 4) hx hb hts iX1 hown hG.1 hP 1 rfl rfl 1 (Nat.le_of_ble_eq_true rfl) (hts _ tw_1_68) (fun _ h9 => h9) rfl dX2_darkCells_45 ?_
        refine lv_iload hx hb dX2_darkCells_48 (lv_at hl 4 rfl) ?_
        refine va_iald hx hb hG.1 hP 3 0 rfl rfl ck2 dX2_darkCells_50 ?_
        refine lv_iload_n hx hb dX2_darkCells_51 rfl (lv_at hl 1 rfl) ?_
        obtain ⟨r6, hc7, h⟩ := bd_ex h
        refine sl_SN K (mX10_reach l G F r4 (σbb.2.1 1 v4.toNatClampNeg) v1 hc7) tw_3_130 tw_1_1 tw_3_129 tw_3_128 cdX10_reach ⟨Nat.le_of_ble_eq_true rfl, Nat.le_of_ble_eq_true rfl⟩ hP hD hS [] rfl rfl rfl rfl hl.1 (Nat.le_of_ble_eq_true rfl) ⟨Nat.zero_le _, Nat.zero_le _⟩ dX2_darkCells_52 (fun H locs hP hD hS => ?_)
        have hP : va_P G.1 vwCl (List.flatten [wF ff (bb 0) (dd 0), wB G bb σbb, wD G dd σdd]) H := hP
        have hD : va_D A (List.flatten [wF ff (bb 0) (dd 0), wB G bb σbb, wD G dd σdd]) := hD
        refine lv_ior hx hb dX2_darkCells_55 ?_
        refine lv_istore_n (lv' := [(3, .int (v3 ||| r6)), (0, .ref ff), (1, .int v1), (2, .int v2), (4, .int v4)]) hx hb dX2_darkCells_56 rfl hl (Nat.le_of_ble_eq_true rfl) rfl (fun ls hl => ?_)
        refine lv_iinc (v := v4 + 1) (lv' := [(4, .int (v4 + 1)), (3, .int (v3 ||| r6)), (0, .ref ff), (1, .int v1), (2, .int v2)]) hx hb dX2_darkCells_57 hl (k := 4) rfl (by rw [li_1]) (Nat.le_of_ble_eq_true rfl) rfl (fun ls hl => ?_)
        refine lv_goto (tgt := 5) hx hb dX2_darkCells_60 (by decide) ?_
        exact ih (v3 ||| r6) (v4 + 1) _ _ _ hP hD hS (lv_sub hl [2, 3, 4, 1, 0] rfl) h
def fX2_darkCells (F : Nat) (σbb : ST) (σdd : ST) (x1 : Int32) (x2 : Int32) : Option (Int32) :=
  (gX2_darkCells_5 F σbb σdd x1 x2 F (0 : Int32) (0 : Int32)).bind fun z8 =>
    (fX4_sunnyCells F σdd x1 x2).bind fun r10 =>
    some (z8.1 &&& r10)
theorem cdX2_darkCells : CallD yX2_darkCells 2 := by decide +kernel
set_option maxHeartbeats 4000000 in
set_option maxRecDepth 100000 in
theorem mX2_darkCells (l : Launch) (G : GP) (F : Nat) (ff : Nat) (bb : Nat → Nat) (dd : Nat → Nat) (σbb : ST) (σdd : ST) (x1 : Int32) (x2 : Int32) {r : Int32} (h : fX2_darkCells F σbb σdd x1 x2 = some r) : CC l G yX2_darkCells cX2_darkCells 5 (some .int) 4 [.ref ff, .int x1, .int x2] (List.flatten [wF ff (bb 0) (dd 0), wB G bb σbb, wD G dd σdd]) (List.flatten [wF ff (bb 0) (dd 0), wB G bb σbb, wD G dd σdd]) (some (.int r)) := by
  refine CC.of (by decide) (Nat.le_of_ble_eq_true rfl) ?_
  intro p e s m below meth c A K hP hD hS ls hl
  obtain ⟨hx, hb, hr, hml, hts, hown, hlocks, hA, hG⟩ := id K
  have hl : lv_has ls 5 [(0, .ref ff), (1, .int x1), (2, .int x2)] := hl
  unfold fX2_darkCells at h
  refine lv_iconst (v := 0) hx hb dX2_darkCells_0 li_0 ?_
  refine lv_istore_n (lv' := [(3, .int (0 : Int32)), (0, .ref ff), (1, .int x1), (2, .int x2)]) hx hb dX2_darkCells_1 rfl hl (Nat.le_of_ble_eq_true rfl) rfl (fun ls hl => ?_)
  refine lv_iconst (v := 0) hx hb dX2_darkCells_2 li_0 ?_
  refine lv_istore (lv' := [(4, .int (0 : Int32)), (3, .int (0 : Int32)), (0, .ref ff), (1, .int x1), (2, .int x2)]) hx hb dX2_darkCells_3 hl (Nat.le_of_ble_eq_true rfl) rfl (fun ls hl => ?_)
  obtain ⟨z8, hz9, h⟩ := bd_ex h
  refine kX2_darkCells_5 K F ff bb dd σbb σdd x1 x2 (fun H locs ls hP hD hS hl => ?_) F (0 : Int32) (0 : Int32) _ _ _ hP hD hS (lv_sub hl [2, 3, 4, 1, 0] rfl) hz9
  refine lv_iload_n hx hb dX2_darkCells_63 rfl (lv_at hl 3 rfl) ?_
  refine lv_aload_n hx hb dX2_darkCells_64 rfl (lv_at hl 0 rfl) ?_
  refine va_get (D := G.1) (cl := vwCl) (tys := tysG G) (ci := 2) (v := .ref (dd 0)) (C := RX2) (T := TX2) (N := 2) hx hb hts iX2 hown hG.1 hP 0 rfl rfl 1 (Nat.le_of_ble_eq_true rfl) (hts _ tw_1_126) (fun _ h9 => h9) rfl dX2_darkCells_65 ?_
  refine lv_iload_n hx hb dX2_darkCells_68 rfl (lv_at hl 1 rfl) ?_
  refine lv_iload_n hx hb dX2_darkCells_69 rfl (lv_at hl 2 rfl) ?_
  obtain ⟨r10, hc11, h⟩ := bd_ex h
  refine sl_V (q0 := 5) (ci := 4) (C := RX4) K (mX4_sunnyCells l G F dd σdd x1 x2 hc11) tw_3_139 tw_1_6 tw_3_137 tw_3_138 tw_3_136 cdX4_sunnyCells ⟨Nat.le_of_ble_eq_true rfl, Nat.le_of_ble_eq_true rfl⟩ hP hD hS [2] rfl rfl rfl rfl rfl rfl rfl hl.1 (Nat.le_of_ble_eq_true rfl) ⟨Nat.zero_le _, Nat.zero_le _⟩ dX2_darkCells_70 (fun H locs hP hD hS => ?_)
  have hP : va_P G.1 vwCl (List.flatten [wF ff (bb 0) (dd 0), wB G bb σbb, wD G dd σdd]) H := hP
  have hD : va_D A (List.flatten [wF ff (bb 0) (dd 0), wB G bb σbb, wD G dd σdd]) := hD
  refine lv_iand hx hb dX2_darkCells_73 ?_
  cases h
  exact rt_i K hP hD hS dX2_darkCells_74
def fX2_darkCellsOf (F : Nat) (σbb : ST) (σdd : ST) (x1 : Int32) (x2 : Int32) : Option (Int32) :=
  (fX1_height F σbb x1).bind fun r1 =>
  if x1 < 0 ∨ 8 ≤ x1.toNatClampNeg then none else
  (fX10_reach F r1 (σbb.2.1 1 x1.toNatClampNeg) x2).bind fun r4 =>
  (fX4_sunnyCells F σdd x2 (σbb.2.1 2 x1.toNatClampNeg)).bind fun r6 =>
  some (r4 &&& r6)
theorem cdX2_darkCellsOf : CallD yX2_darkCellsOf 2 := by decide +kernel
set_option maxHeartbeats 4000000 in
set_option maxRecDepth 100000 in
theorem mX2_darkCellsOf (l : Launch) (G : GP) (F : Nat) (ff : Nat) (bb : Nat → Nat) (dd : Nat → Nat) (σbb : ST) (σdd : ST) (x1 : Int32) (x2 : Int32) {r : Int32} (h : fX2_darkCellsOf F σbb σdd x1 x2 = some r) : CC l G yX2_darkCellsOf cX2_darkCellsOf 3 (some .int) 4 [.ref ff, .int x1, .int x2] (List.flatten [wF ff (bb 0) (dd 0), wB G bb σbb, wD G dd σdd]) (List.flatten [wF ff (bb 0) (dd 0), wB G bb σbb, wD G dd σdd]) (some (.int r)) := by
  refine CC.of (by decide) (Nat.le_of_ble_eq_true rfl) ?_
  intro p e s m below meth c A K hP hD hS ls hl
  obtain ⟨hx, hb, hr, hml, hts, hown, hlocks, hA, hG⟩ := id K
  have hl : lv_has ls 3 [(0, .ref ff), (1, .int x1), (2, .int x2)] := hl
  unfold fX2_darkCellsOf at h
  refine lv_aload_n hx hb dX2_darkCellsOf_0 rfl (lv_at hl 0 rfl) ?_
  refine va_get (D := G.1) (cl := vwCl) (tys := tysG G) (ci := 2) (v := .ref (bb 0)) (C := RX2) (T := TX2) (N := 2) hx hb hts iX2 hown hG.1 hP 0 rfl rfl 0 (Nat.le_of_ble_eq_true rfl) (hts _ tw_1_123) (fun _ h9 => h9) rfl dX2_darkCellsOf_1 ?_
  refine lv_iload_n hx hb dX2_darkCellsOf_4 rfl (lv_at hl 1 rfl) ?_
  obtain ⟨r1, hc2, h⟩ := bd_ex h
  refine sl_V (q0 := 1) (ci := 1) (C := RX1) K (mX1_height l G F bb σbb x1 hc2) tw_3_54 tw_1_5 tw_3_52 tw_3_53 tw_3_127 cdX1_height ⟨Nat.le_of_ble_eq_true rfl, Nat.le_of_ble_eq_true rfl⟩ hP hD hS [1] rfl rfl rfl rfl rfl rfl rfl hl.1 (Nat.le_of_ble_eq_true rfl) ⟨Nat.zero_le _, Nat.zero_le _⟩ dX2_darkCellsOf_5 (fun H locs hP hD hS => ?_)
  have hP : va_P G.1 vwCl (List.flatten [wF ff (bb 0) (dd 0), wB G bb σbb, wD G dd σdd]) H := hP
  have hD : va_D A (List.flatten [wF ff (bb 0) (dd 0), wB G bb σbb, wD G dd σdd]) := hD
  refine lv_aload_n hx hb dX2_darkCellsOf_8 rfl (lv_at hl 0 rfl) ?_
  refine va_get (D := G.1) (cl := vwCl) (tys := tysG G) (ci := 2) (v := .ref (bb 0)) (C := RX2) (T := TX2) (N := 2) hx hb hts iX2 hown hG.1 hP 0 rfl rfl 0 (Nat.le_of_ble_eq_true rfl) (hts _ tw_1_123) (fun _ h9 => h9) rfl dX2_darkCellsOf_9 ?_
  refine va_get (D := G.1) (cl := vwCl) (tys := tysG G) (ci := 1) (v := .ref (bb 2)) (C := RX1) (T := TX1) (N := 4) hx hb hts iX1 hown hG.1 hP 1 rfl rfl 1 (Nat.le_of_ble_eq_true rfl) (hts _ tw_1_68) (fun _ h9 => h9) rfl dX2_darkCellsOf_12 ?_
  refine lv_iload_n hx hb dX2_darkCellsOf_15 rfl (lv_at hl 1 rfl) ?_
  obtain ⟨ck3, h⟩ := ck h
  refine va_iald hx hb hG.1 hP 3 0 rfl rfl ck3 dX2_darkCellsOf_16 ?_
  refine lv_iload_n hx hb dX2_darkCellsOf_17 rfl (lv_at hl 2 rfl) ?_
  obtain ⟨r4, hc5, h⟩ := bd_ex h
  refine sl_SN K (mX10_reach l G F r1 (σbb.2.1 1 x1.toNatClampNeg) x2 hc5) tw_3_130 tw_1_1 tw_3_129 tw_3_128 cdX10_reach ⟨Nat.le_of_ble_eq_true rfl, Nat.le_of_ble_eq_true rfl⟩ hP hD hS [] rfl rfl rfl rfl hl.1 (Nat.le_of_ble_eq_true rfl) ⟨Nat.zero_le _, Nat.zero_le _⟩ dX2_darkCellsOf_18 (fun H locs hP hD hS => ?_)
  have hP : va_P G.1 vwCl (List.flatten [wF ff (bb 0) (dd 0), wB G bb σbb, wD G dd σdd]) H := hP
  have hD : va_D A (List.flatten [wF ff (bb 0) (dd 0), wB G bb σbb, wD G dd σdd]) := hD
  refine lv_aload_n hx hb dX2_darkCellsOf_21 rfl (lv_at hl 0 rfl) ?_
  refine va_get (D := G.1) (cl := vwCl) (tys := tysG G) (ci := 2) (v := .ref (dd 0)) (C := RX2) (T := TX2) (N := 2) hx hb hts iX2 hown hG.1 hP 0 rfl rfl 1 (Nat.le_of_ble_eq_true rfl) (hts _ tw_1_126) (fun _ h9 => h9) rfl dX2_darkCellsOf_22 ?_
  refine lv_iload_n hx hb dX2_darkCellsOf_25 rfl (lv_at hl 2 rfl) ?_
  refine lv_aload_n hx hb dX2_darkCellsOf_26 rfl (lv_at hl 0 rfl) ?_
  refine va_get (D := G.1) (cl := vwCl) (tys := tysG G) (ci := 2) (v := .ref (bb 0)) (C := RX2) (T := TX2) (N := 2) hx hb hts iX2 hown hG.1 hP 0 rfl rfl 0 (Nat.le_of_ble_eq_true rfl) (hts _ tw_1_123) (fun _ h9 => h9) rfl dX2_darkCellsOf_27 ?_
  refine va_get (D := G.1) (cl := vwCl) (tys := tysG G) (ci := 1) (v := .ref (bb 3)) (C := RX1) (T := TX1) (N := 4) hx hb hts iX1 hown hG.1 hP 1 rfl rfl 2 (Nat.le_of_ble_eq_true rfl) (hts _ tw_1_72) (fun _ h9 => h9) rfl dX2_darkCellsOf_30 ?_
  refine lv_iload_n hx hb dX2_darkCellsOf_33 rfl (lv_at hl 1 rfl) ?_
  refine va_iald hx hb hG.1 hP 4 0 rfl rfl ck3 dX2_darkCellsOf_34 ?_
  obtain ⟨r6, hc7, h⟩ := bd_ex h
  refine sl_V (q0 := 5) (ci := 4) (C := RX4) K (mX4_sunnyCells l G F dd σdd x2 (σbb.2.1 2 x1.toNatClampNeg) hc7) tw_3_139 tw_1_6 tw_3_137 tw_3_138 tw_3_136 cdX4_sunnyCells ⟨Nat.le_of_ble_eq_true rfl, Nat.le_of_ble_eq_true rfl⟩ hP hD hS [2] rfl rfl rfl rfl rfl rfl rfl hl.1 (Nat.le_of_ble_eq_true rfl) ⟨Nat.zero_le _, Nat.zero_le _⟩ dX2_darkCellsOf_35 (fun H locs hP hD hS => ?_)
  have hP : va_P G.1 vwCl (List.flatten [wF ff (bb 0) (dd 0), wB G bb σbb, wD G dd σdd]) H := hP
  have hD : va_D A (List.flatten [wF ff (bb 0) (dd 0), wB G bb σbb, wD G dd σdd]) := hD
  refine lv_iand hx hb dX2_darkCellsOf_38 ?_
  cases h
  exact rt_i K hP hD hS dX2_darkCellsOf_39
def gbX2_isLonely_16 (F : Nat) (σbb : ST) (σdd : ST) (v1 : Int32) (v2 : Int32) (v3 : Int32) (rc : Int32 → Option (Nat × Int32)) (v4 : Int32) : Option (Nat × Int32) :=
  if (σbb.1 3) ≤ v4 then
    some ((76 : Nat), v4)
  else
    if v4 = v1 then
      rc (v4 + 1)
    else
      if v4 < 0 ∨ 8 ≤ v4.toNatClampNeg then none else
      if v1 < 0 ∨ 8 ≤ v1.toNatClampNeg then none else
      if (σbb.2.1 2 v4.toNatClampNeg) = (σbb.2.1 2 v1.toNatClampNeg) then
        (fX2_darkCellsOf F σbb σdd v4 v2).bind fun r9 =>
        if (v3 &&& r9) = 0 then
          rc (v4 + 1)
        else
          some ((68 : Nat), v4)
      else
        rc (v4 + 1)
def gX2_isLonely_16 (F : Nat) (σbb : ST) (σdd : ST) (v1 : Int32) (v2 : Int32) (v3 : Int32) : Nat → Int32 → Option (Nat × Int32)
  | 0, _ => none
  | n + 1, v4 => gbX2_isLonely_16 F σbb σdd v1 v2 v3 (gX2_isLonely_16 F σbb σdd v1 v2 v3 n) v4
set_option maxHeartbeats 4000000 in
set_option maxRecDepth 100000 in
theorem kX2_isLonely_16 {p : Program} {l : Launch} {e : Env} {s : State} {m : MethodId} {args : Array Value} {below : List Frame} {meth : Method} {c : Code} {A : Nat → Prop} {Q : State → Prop} {G : GP} (K : Cx p s m meth c G cX2_isLonely RX2 5 (some .boolean) args A) (F : Nat) (ff : Nat) (bb : Nat → Nat) (dd : Nat → Nat) (σbb : ST) (σdd : ST) (v1 : Int32) (v2 : Int32) (v3 : Int32) {z : Nat × Int32} (kk68 : z.1 = 68 → ∀ (H : Heap) (locs : List Loc) (ls : Array Slot), va_P G.1 vwCl (List.flatten [wF ff (bb 0) (dd 0), wB G bb σbb, wD G dd σdd]) H → va_D A (List.flatten [wF ff (bb 0) (dd 0), wB G bb σbb, wD G dd σdd]) → va_S A s.heap H locs → lv_has ls 5 [(0, .ref ff), (1, .int v1), (2, .int v2), (3, .int v3), (4, .int z.2)] → W p l e (RM 5) s m args below meth c H locs 0 0 Q (F0 m 68 ls [])) (kk76 : z.1 = 76 → ∀ (H : Heap) (locs : List Loc) (ls : Array Slot), va_P G.1 vwCl (List.flatten [wF ff (bb 0) (dd 0), wB G bb σbb, wD G dd σdd]) H → va_D A (List.flatten [wF ff (bb 0) (dd 0), wB G bb σbb, wD G dd σdd]) → va_S A s.heap H locs → lv_has ls 5 [(0, .ref ff), (1, .int v1), (2, .int v2), (3, .int v3), (4, .int z.2)] → W p l e (RM 5) s m args below meth c H locs 0 0 Q (F0 m 76 ls [])) :
    ∀ (n : Nat) (v4 : Int32) (H : Heap) (locs : List Loc) (ls : Array Slot), va_P G.1 vwCl (List.flatten [wF ff (bb 0) (dd 0), wB G bb σbb, wD G dd σdd]) H → va_D A (List.flatten [wF ff (bb 0) (dd 0), wB G bb σbb, wD G dd σdd]) → va_S A s.heap H locs → lv_has ls 5 [(0, .ref ff), (1, .int v1), (2, .int v2), (3, .int v3), (4, .int v4)] → gX2_isLonely_16 F σbb σdd v1 v2 v3 n v4 = some z → W p l e (RM 5) s m args below meth c H locs 0 0 Q (F0 m 16 ls []) := by
  obtain ⟨hx, hb, hr, hml, hts, hown, hlocks, hA, hG⟩ := id K
  intro n
  induction n with
  | zero =>
    intro v4 H locs ls hP hD hS hl h
    have h : none = some z := h
    cases h
  | succ n ih =>
    intro v4 H locs ls hP hD hS hl h
    have h : gbX2_isLonely_16 F σbb σdd v1 v2 v3 (gX2_isLonely_16 F σbb σdd v1 v2 v3 n) v4 = some z := h
    unfold gbX2_isLonely_16 at h
    refine lv_iload hx hb dX2_isLonely_16 (lv_at hl 4 rfl) ?_
    refine lv_aload_n hx hb dX2_isLonely_18 rfl (lv_at hl 0 rfl) ?_
    refine va_get (D := G.1) (cl := vwCl) (tys := tysG G) (ci := 2) (v := .ref (bb 0)) (C := RX2) (T := TX2) (N := 2) hx hb hts iX2 hown hG.1 hP 0 rfl rfl 0 (Nat.le_of_ble_eq_true rfl) (hts _ tw_1_123) (fun _ h9 => h9) rfl dX2_isLonely_19 ?_
    refine va_get (D := G.1) (cl := vwCl) (tys := tysG G) (ci := 1) (v := .int (σbb.1 3)) (C := RX1) (T := TX1) (N := 4) hx hb hts iX1 hown hG.1 hP 1 rfl rfl 3 (Nat.le_of_ble_eq_true rfl) (hts _ tw_1_75) (fun _ h9 => h9) rfl dX2_isLonely_22 ?_
    refine lv_icmp_ge (tgt := 76) hx hb dX2_isLonely_25 (by decide) (fun c4 => ?_) (fun c4 => ?_)
    · have h := if_t c4 h
      cases h
      exact kk76 rfl _ _ _ hP hD hS (lv_sub hl [0, 1, 2, 3, 4] rfl)
    · have h := if_f c4 h
      refine lv_iload hx hb dX2_isLonely_28 (lv_at hl 4 rfl) ?_
      refine lv_iload_n hx hb dX2_isLonely_30 rfl (lv_at hl 1 rfl) ?_
      refine lv_icmp_eq (tgt := 70) hx hb dX2_isLonely_31 (by decide) (fun c5 => ?_) (fun c5 => ?_)
      · have h := if_t c5 h
        refine lv_iinc (v := v4 + 1) (lv' := [(4, .int (v4 + 1)), (0, .ref ff), (1, .int v1), (2, .int v2), (3, .int v3)]) hx hb dX2_isLonely_70 hl (k := 4) rfl (by rw [li_1]) (Nat.le_of_ble_eq_true rfl) rfl (fun ls hl => ?_)
        refine lv_goto (tgt := 16) hx hb dX2_isLonely_73 (by decide) ?_
        exact ih (v4 + 1) _ _ _ hP hD hS (lv_sub hl [1, 2, 3, 4, 0] rfl) h
      · have h := if_f c5 h
        refine lv_aload_n hx hb dX2_isLonely_34 rfl (lv_at hl 0 rfl) ?_
        refine va_get (D := G.1) (cl := vwCl) (tys := tysG G) (ci := 2) (v := .ref (bb 0)) (C := RX2) (T := TX2) (N := 2) hx hb hts iX2 hown hG.1 hP 0 rfl rfl 0 (Nat.le_of_ble_eq_true rfl) (hts _ tw_1_123) (fun _ h9 => h9) rfl dX2_isLonely_35 ?_
        refine va_get (D := G.1) (cl := vwCl) (tys := tysG G) (ci := 1) (v := .ref (bb 3)) (C := RX1) (T := TX1) (N := 4) hx hb hts iX1 hown hG.1 hP 1 rfl rfl 2 (Nat.le_of_ble_eq_true rfl) (hts _ tw_1_72) (fun _ h9 => h9) rfl dX2_isLonely_38 ?_
        refine lv_iload hx hb dX2_isLonely_41 (lv_at hl 4 rfl) ?_
        obtain ⟨ck6, h⟩ := ck h
        refine va_iald hx hb hG.1 hP 4 0 rfl rfl ck6 dX2_isLonely_43 ?_
        refine lv_aload_n hx hb dX2_isLonely_44 rfl (lv_at hl 0 rfl) ?_
        refine va_get (D := G.1) (cl := vwCl) (tys := tysG G) (ci := 2) (v := .ref (bb 0)) (C := RX2) (T := TX2) (N := 2) hx hb hts iX2 hown hG.1 hP 0 rfl rfl 0 (Nat.le_of_ble_eq_true rfl) (hts _ tw_1_123) (fun _ h9 => h9) rfl dX2_isLonely_45 ?_
        refine va_get (D := G.1) (cl := vwCl) (tys := tysG G) (ci := 1) (v := .ref (bb 3)) (C := RX1) (T := TX1) (N := 4) hx hb hts iX1 hown hG.1 hP 1 rfl rfl 2 (Nat.le_of_ble_eq_true rfl) (hts _ tw_1_72) (fun _ h9 => h9) rfl dX2_isLonely_48 ?_
        refine lv_iload_n hx hb dX2_isLonely_51 rfl (lv_at hl 1 rfl) ?_
        obtain ⟨ck7, h⟩ := ck h
        refine va_iald hx hb hG.1 hP 4 0 rfl rfl ck7 dX2_isLonely_52 ?_
        refine lv_icmp_ne (tgt := 70) hx hb dX2_isLonely_53 (by decide) (fun c8 => ?_) (fun c8 => ?_)
        · have h := if_f c8 h
          refine lv_iinc (v := v4 + 1) (lv' := [(4, .int (v4 + 1)), (0, .ref ff), (1, .int v1), (2, .int v2), (3, .int v3)]) hx hb dX2_isLonely_70 hl (k := 4) rfl (by rw [li_1]) (Nat.le_of_ble_eq_true rfl) rfl (fun ls hl => ?_)
          refine lv_goto (tgt := 16) hx hb dX2_isLonely_73 (by decide) ?_
          exact ih (v4 + 1) _ _ _ hP hD hS (lv_sub hl [1, 2, 3, 4, 0] rfl) h
        · have h := if_t c8 h
          refine lv_iload_n hx hb dX2_isLonely_56 rfl (lv_at hl 3 rfl) ?_
          refine lv_aload_n hx hb dX2_isLonely_57 rfl (lv_at hl 0 rfl) ?_
          refine lv_iload hx hb dX2_isLonely_58 (lv_at hl 4 rfl) ?_
          refine lv_iload_n hx hb dX2_isLonely_60 rfl (lv_at hl 2 rfl) ?_
          obtain ⟨r9, hc10, h⟩ := bd_ex h
          refine sl_V (q0 := 0) (ci := 2) (C := RX2) K (mX2_darkCellsOf l G F ff bb dd σbb σdd v4 v2 hc10) tw_3_182 tw_1_4 tw_3_180 tw_3_181 tw_3_179 cdX2_darkCellsOf ⟨Nat.le_of_ble_eq_true rfl, Nat.le_of_ble_eq_true rfl⟩ hP hD hS [0, 1, 2] rfl rfl rfl rfl rfl rfl rfl hl.1 (Nat.le_of_ble_eq_true rfl) ⟨Nat.zero_le _, Nat.zero_le _⟩ dX2_isLonely_61 (fun H locs hP hD hS => ?_)
          have hP : va_P G.1 vwCl (List.flatten [wF ff (bb 0) (dd 0), wB G bb σbb, wD G dd σdd]) H := hP
          have hD : va_D A (List.flatten [wF ff (bb 0) (dd 0), wB G bb σbb, wD G dd σdd]) := hD
          refine lv_iand hx hb dX2_isLonely_64 ?_
          refine lv_if_eq (tgt := 70) hx hb dX2_isLonely_65 (by decide) (fun c11 => ?_) (fun c11 => ?_)
          · have h := if_t c11 h
            refine lv_iinc (v := v4 + 1) (lv' := [(4, .int (v4 + 1)), (0, .ref ff), (1, .int v1), (2, .int v2), (3, .int v3)]) hx hb dX2_isLonely_70 hl (k := 4) rfl (by rw [li_1]) (Nat.le_of_ble_eq_true rfl) rfl (fun ls hl => ?_)
            refine lv_goto (tgt := 16) hx hb dX2_isLonely_73 (by decide) ?_
            exact ih (v4 + 1) _ _ _ hP hD hS (lv_sub hl [1, 2, 3, 4, 0] rfl) h
          · have h := if_f c11 h
            cases h
            exact kk68 rfl _ _ _ hP hD hS (lv_sub hl [0, 1, 2, 3, 4] rfl)
def fX2_isLonely (F : Nat) (σbb : ST) (σdd : ST) (x1 : Int32) (x2 : Int32) : Option (Int32) :=
  (fX2_darkCellsOf F σbb σdd x1 x2).bind fun r1 =>
  if r1 = 0 then
    some (0 : Int32)
  else
    (gX2_isLonely_16 F σbb σdd x1 x2 r1 F (0 : Int32)).bind fun z12 =>
      if z12.1 = 68 then
        some (0 : Int32)
      else
        some (1 : Int32)
theorem cdX2_isLonely : CallD yX2_isLonely 2 := by decide +kernel
set_option maxHeartbeats 4000000 in
set_option maxRecDepth 100000 in
theorem mX2_isLonely (l : Launch) (G : GP) (F : Nat) (ff : Nat) (bb : Nat → Nat) (dd : Nat → Nat) (σbb : ST) (σdd : ST) (x1 : Int32) (x2 : Int32) {r : Int32} (h : fX2_isLonely F σbb σdd x1 x2 = some r) : CC l G yX2_isLonely cX2_isLonely 5 (some .boolean) 5 [.ref ff, .int x1, .int x2] (List.flatten [wF ff (bb 0) (dd 0), wB G bb σbb, wD G dd σdd]) (List.flatten [wF ff (bb 0) (dd 0), wB G bb σbb, wD G dd σdd]) (some (.int r)) := by
  refine CC.of (by decide) (Nat.le_of_ble_eq_true rfl) ?_
  intro p e s m below meth c A K hP hD hS ls hl
  obtain ⟨hx, hb, hr, hml, hts, hown, hlocks, hA, hG⟩ := id K
  have hl : lv_has ls 5 [(0, .ref ff), (1, .int x1), (2, .int x2)] := hl
  unfold fX2_isLonely at h
  refine lv_aload_n hx hb dX2_isLonely_0 rfl (lv_at hl 0 rfl) ?_
  refine lv_iload_n hx hb dX2_isLonely_1 rfl (lv_at hl 1 rfl) ?_
  refine lv_iload_n hx hb dX2_isLonely_2 rfl (lv_at hl 2 rfl) ?_
  obtain ⟨r1, hc2, h⟩ := bd_ex h
  refine sl_V (q0 := 0) (ci := 2) (C := RX2) K (mX2_darkCellsOf l G F ff bb dd σbb σdd x1 x2 hc2) tw_3_182 tw_1_4 tw_3_180 tw_3_181 tw_3_179 cdX2_darkCellsOf ⟨Nat.le_of_ble_eq_true rfl, Nat.le_of_ble_eq_true rfl⟩ hP hD hS [0, 1, 2] rfl rfl rfl rfl rfl rfl rfl hl.1 (Nat.le_of_ble_eq_true rfl) ⟨Nat.zero_le _, Nat.zero_le _⟩ dX2_isLonely_3 (fun H locs hP hD hS => ?_)
  have hP : va_P G.1 vwCl (List.flatten [wF ff (bb 0) (dd 0), wB G bb σbb, wD G dd σdd]) H := hP
  have hD : va_D A (List.flatten [wF ff (bb 0) (dd 0), wB G bb σbb, wD G dd σdd]) := hD
  refine lv_istore_n (lv' := [(3, .int r1), (0, .ref ff), (1, .int x1), (2, .int x2)]) hx hb dX2_isLonely_6 rfl hl (Nat.le_of_ble_eq_true rfl) rfl (fun ls hl => ?_)
  refine lv_iload_n hx hb dX2_isLonely_7 rfl (lv_at hl 0 rfl) ?_
  refine lv_if_ne (tgt := 13) hx hb dX2_isLonely_8 (by decide) (fun c3 => ?_) (fun c3 => ?_)
  · have h := if_f c3 h
    refine lv_iconst (v := 0) hx hb dX2_isLonely_13 li_0 ?_
    refine lv_istore (lv' := [(4, .int (0 : Int32)), (3, .int r1), (0, .ref ff), (1, .int x1), (2, .int x2)]) hx hb dX2_isLonely_14 hl (Nat.le_of_ble_eq_true rfl) rfl (fun ls hl => ?_)
    obtain ⟨z12, hz13, h⟩ := bd_ex h
    refine kX2_isLonely_16 K F ff bb dd σbb σdd x1 x2 r1 (fun ht H locs ls hP hD hS hl => ?_) (fun ht H locs ls hP hD hS hl => ?_) F (0 : Int32) _ _ _ hP hD hS (lv_sub hl [2, 3, 4, 1, 0] rfl) hz13
    · have h := if_t ht h
      refine lv_iconst (v := 0) hx hb dX2_isLonely_68 li_0 ?_
      cases h
      exact rt_z K (Or.inl rfl) hP hD hS dX2_isLonely_69
    · have h := if_f (by rw [ht]; decide) h
      refine lv_iconst (v := 1) hx hb dX2_isLonely_76 li_1 ?_
      cases h
      exact rt_z K (Or.inr rfl) hP hD hS dX2_isLonely_77
  · have h := if_t c3 h
    refine lv_iconst (v := 0) hx hb dX2_isLonely_11 li_0 ?_
    cases h
    exact rt_z K (Or.inl rfl) hP hD hS dX2_isLonely_12
def gbX2_lonely_4 (F : Nat) (σbb : ST) (σdd : ST) (v1 : Int32) (rc : Int32 → Int32 → Option (Int32 × Int32)) (v2 : Int32) (v3 : Int32) : Option (Int32 × Int32) :=
  if (σbb.1 3) ≤ v3 then
    some (v2, v3)
  else
    (fX2_isLonely F σbb σdd v3 v1).bind fun r2 =>
    if r2 = 0 then
      rc (v2 + (0 : Int32)) (v3 + 1)
    else
      rc (v2 + (1 : Int32)) (v3 + 1)
def gX2_lonely_4 (F : Nat) (σbb : ST) (σdd : ST) (v1 : Int32) : Nat → Int32 → Int32 → Option (Int32 × Int32)
  | 0, _, _ => none
  | n + 1, v2, v3 => gbX2_lonely_4 F σbb σdd v1 (gX2_lonely_4 F σbb σdd v1 n) v2 v3
set_option maxHeartbeats 4000000 in
set_option maxRecDepth 100000 in
theorem kX2_lonely_4 {p : Program} {l : Launch} {e : Env} {s : State} {m : MethodId} {args : Array Value} {below : List Frame} {meth : Method} {c : Code} {A : Nat → Prop} {Q : State → Prop} {G : GP} (K : Cx p s m meth c G cX2_lonely RX2 4 (some .int) args A) (F : Nat) (ff : Nat) (bb : Nat → Nat) (dd : Nat → Nat) (σbb : ST) (σdd : ST) (v1 : Int32) {z : Int32 × Int32} (kk : ∀ (H : Heap) (locs : List Loc) (ls : Array Slot), va_P G.1 vwCl (List.flatten [wF ff (bb 0) (dd 0), wB G bb σbb, wD G dd σdd]) H → va_D A (List.flatten [wF ff (bb 0) (dd 0), wB G bb σbb, wD G dd σdd]) → va_S A s.heap H locs → lv_has ls 4 [(0, .ref ff), (1, .int v1), (2, .int z.1), (3, .int z.2)] → W p l e (RM 6) s m args below meth c H locs 0 0 Q (F0 m 38 ls [])) :
    ∀ (n : Nat) (v2 : Int32) (v3 : Int32) (H : Heap) (locs : List Loc) (ls : Array Slot), va_P G.1 vwCl (List.flatten [wF ff (bb 0) (dd 0), wB G bb σbb, wD G dd σdd]) H → va_D A (List.flatten [wF ff (bb 0) (dd 0), wB G bb σbb, wD G dd σdd]) → va_S A s.heap H locs → lv_has ls 4 [(0, .ref ff), (1, .int v1), (2, .int v2), (3, .int v3)] → gX2_lonely_4 F σbb σdd v1 n v2 v3 = some z → W p l e (RM 6) s m args below meth c H locs 0 0 Q (F0 m 4 ls []) := by
  obtain ⟨hx, hb, hr, hml, hts, hown, hlocks, hA, hG⟩ := id K
  intro n
  induction n with
  | zero =>
    intro v2 v3 H locs ls hP hD hS hl h
    have h : none = some z := h
    cases h
  | succ n ih =>
    intro v2 v3 H locs ls hP hD hS hl h
    have h : gbX2_lonely_4 F σbb σdd v1 (gX2_lonely_4 F σbb σdd v1 n) v2 v3 = some z := h
    unfold gbX2_lonely_4 at h
    refine lv_iload_n hx hb dX2_lonely_4 rfl (lv_at hl 3 rfl) ?_
    refine lv_aload_n hx hb dX2_lonely_5 rfl (lv_at hl 0 rfl) ?_
    refine va_get (D := G.1) (cl := vwCl) (tys := tysG G) (ci := 2) (v := .ref (bb 0)) (C := RX2) (T := TX2) (N := 2) hx hb hts iX2 hown hG.1 hP 0 rfl rfl 0 (Nat.le_of_ble_eq_true rfl) (hts _ tw_1_123) (fun _ h9 => h9) rfl dX2_lonely_6 ?_
    refine va_get (D := G.1) (cl := vwCl) (tys := tysG G) (ci := 1) (v := .int (σbb.1 3)) (C := RX1) (T := TX1) (N := 4) hx hb hts iX1 hown hG.1 hP 1 rfl rfl 3 (Nat.le_of_ble_eq_true rfl) (hts _ tw_1_75) (fun _ h9 => h9) rfl dX2_lonely_9 ?_
    refine lv_icmp_ge (tgt := 38) hx hb dX2_lonely_12 (by decide) (fun c1 => ?_) (fun c1 => ?_)
    · have h := if_t c1 h
      cases h
      exact kk _ _ _ hP hD hS (lv_sub hl [0, 1, 2, 3] rfl)
    · have h := if_f c1 h
      refine lv_iload_n hx hb dX2_lonely_15 rfl (lv_at hl 2 rfl) ?_
      refine lv_aload_n hx hb dX2_lonely_16 rfl (lv_at hl 0 rfl) ?_
      refine lv_iload_n hx hb dX2_lonely_17 rfl (lv_at hl 3 rfl) ?_
      refine lv_iload_n hx hb dX2_lonely_18 rfl (lv_at hl 1 rfl) ?_
      obtain ⟨r2, hc3, h⟩ := bd_ex h
      refine sl_V (q0 := 0) (ci := 2) (C := RX2) K (mX2_isLonely l G F ff bb dd σbb σdd v3 v1 hc3) tw_3_178 tw_1_4 tw_3_176 tw_3_177 tw_3_175 cdX2_isLonely ⟨Nat.le_of_ble_eq_true rfl, Nat.le_of_ble_eq_true rfl⟩ hP hD hS [0, 1, 2] rfl rfl rfl rfl rfl rfl rfl hl.1 (Nat.le_of_ble_eq_true rfl) ⟨Nat.zero_le _, Nat.zero_le _⟩ dX2_lonely_19 (fun H locs hP hD hS => ?_)
      have hP : va_P G.1 vwCl (List.flatten [wF ff (bb 0) (dd 0), wB G bb σbb, wD G dd σdd]) H := hP
      have hD : va_D A (List.flatten [wF ff (bb 0) (dd 0), wB G bb σbb, wD G dd σdd]) := hD
      refine lv_if_eq (tgt := 29) hx hb dX2_lonely_22 (by decide) (fun c4 => ?_) (fun c4 => ?_)
      · have h := if_t c4 h
        refine lv_iconst (v := 0) hx hb dX2_lonely_29 li_0 ?_
        refine lv_iadd hx hb dX2_lonely_30 ?_
        refine lv_istore_n (lv' := [(2, .int (v2 + (0 : Int32))), (0, .ref ff), (1, .int v1), (3, .int v3)]) hx hb dX2_lonely_31 rfl hl (Nat.le_of_ble_eq_true rfl) rfl (fun ls hl => ?_)
        refine lv_iinc (v := v3 + 1) (lv' := [(3, .int (v3 + 1)), (2, .int (v2 + (0 : Int32))), (0, .ref ff), (1, .int v1)]) hx hb dX2_lonely_32 hl (k := 3) rfl (by rw [li_1]) (Nat.le_of_ble_eq_true rfl) rfl (fun ls hl => ?_)
        refine lv_goto (tgt := 4) hx hb dX2_lonely_35 (by decide) ?_
        exact ih (v2 + (0 : Int32)) (v3 + 1) _ _ _ hP hD hS (lv_sub hl [2, 3, 1, 0] rfl) h
      · have h := if_f c4 h
        refine lv_iconst (v := 1) hx hb dX2_lonely_25 li_1 ?_
        refine lv_goto (tgt := 30) hx hb dX2_lonely_26 (by decide) ?_
        refine lv_iadd hx hb dX2_lonely_30 ?_
        refine lv_istore_n (lv' := [(2, .int (v2 + (1 : Int32))), (0, .ref ff), (1, .int v1), (3, .int v3)]) hx hb dX2_lonely_31 rfl hl (Nat.le_of_ble_eq_true rfl) rfl (fun ls hl => ?_)
        refine lv_iinc (v := v3 + 1) (lv' := [(3, .int (v3 + 1)), (2, .int (v2 + (1 : Int32))), (0, .ref ff), (1, .int v1)]) hx hb dX2_lonely_32 hl (k := 3) rfl (by rw [li_1]) (Nat.le_of_ble_eq_true rfl) rfl (fun ls hl => ?_)
        refine lv_goto (tgt := 4) hx hb dX2_lonely_35 (by decide) ?_
        exact ih (v2 + (1 : Int32)) (v3 + 1) _ _ _ hP hD hS (lv_sub hl [2, 3, 1, 0] rfl) h
def fX2_lonely (F : Nat) (σbb : ST) (σdd : ST) (x1 : Int32) : Option (Int32) :=
  (gX2_lonely_4 F σbb σdd x1 F (0 : Int32) (0 : Int32)).bind fun z5 =>
    some z5.1
theorem cdX2_lonely : CallD yX2_lonely 1 := by decide +kernel
set_option maxHeartbeats 4000000 in
set_option maxRecDepth 100000 in
theorem mX2_lonely (l : Launch) (G : GP) (F : Nat) (ff : Nat) (bb : Nat → Nat) (dd : Nat → Nat) (σbb : ST) (σdd : ST) (x1 : Int32) {r : Int32} (h : fX2_lonely F σbb σdd x1 = some r) : CC l G yX2_lonely cX2_lonely 4 (some .int) 6 [.ref ff, .int x1] (List.flatten [wF ff (bb 0) (dd 0), wB G bb σbb, wD G dd σdd]) (List.flatten [wF ff (bb 0) (dd 0), wB G bb σbb, wD G dd σdd]) (some (.int r)) := by
  refine CC.of (by decide) (Nat.le_of_ble_eq_true rfl) ?_
  intro p e s m below meth c A K hP hD hS ls hl
  obtain ⟨hx, hb, hr, hml, hts, hown, hlocks, hA, hG⟩ := id K
  have hl : lv_has ls 4 [(0, .ref ff), (1, .int x1)] := hl
  unfold fX2_lonely at h
  refine lv_iconst (v := 0) hx hb dX2_lonely_0 li_0 ?_
  refine lv_istore_n (lv' := [(2, .int (0 : Int32)), (0, .ref ff), (1, .int x1)]) hx hb dX2_lonely_1 rfl hl (Nat.le_of_ble_eq_true rfl) rfl (fun ls hl => ?_)
  refine lv_iconst (v := 0) hx hb dX2_lonely_2 li_0 ?_
  refine lv_istore_n (lv' := [(3, .int (0 : Int32)), (2, .int (0 : Int32)), (0, .ref ff), (1, .int x1)]) hx hb dX2_lonely_3 rfl hl (Nat.le_of_ble_eq_true rfl) rfl (fun ls hl => ?_)
  obtain ⟨z5, hz6, h⟩ := bd_ex h
  refine kX2_lonely_4 K F ff bb dd σbb σdd x1 (fun H locs ls hP hD hS hl => ?_) F (0 : Int32) (0 : Int32) _ _ _ hP hD hS (lv_sub hl [2, 3, 1, 0] rfl) hz6
  refine lv_iload_n hx hb dX2_lonely_38 rfl (lv_at hl 2 rfl) ?_
  cases h
  exact rt_i K hP hD hS dX2_lonely_39
def gbX2_watchedCells_4 (F : Nat) (σbb : ST) (σdd : ST) (v1 : Int32) (rc : Int32 → Int32 → Option (Int32 × Int32)) (v2 : Int32) (v3 : Int32) : Option (Int32 × Int32) :=
  if (σdd.1 3) ≤ v3 then
    some (v2, v3)
  else
    (fX4_view F σdd v3 v1).bind fun r2 =>
    rc (v2 ||| r2) (v3 + 1)
def gX2_watchedCells_4 (F : Nat) (σbb : ST) (σdd : ST) (v1 : Int32) : Nat → Int32 → Int32 → Option (Int32 × Int32)
  | 0, _, _ => none
  | n + 1, v2, v3 => gbX2_watchedCells_4 F σbb σdd v1 (gX2_watchedCells_4 F σbb σdd v1 n) v2 v3
set_option maxHeartbeats 4000000 in
set_option maxRecDepth 100000 in
theorem kX2_watchedCells_4 {p : Program} {l : Launch} {e : Env} {s : State} {m : MethodId} {args : Array Value} {below : List Frame} {meth : Method} {c : Code} {A : Nat → Prop} {Q : State → Prop} {G : GP} (K : Cx p s m meth c G cX2_watchedCells RX2 4 (some .int) args A) (F : Nat) (ff : Nat) (bb : Nat → Nat) (dd : Nat → Nat) (σbb : ST) (σdd : ST) (v1 : Int32) {z : Int32 × Int32} (kk : ∀ (H : Heap) (locs : List Loc) (ls : Array Slot), va_P G.1 vwCl (List.flatten [wF ff (bb 0) (dd 0), wB G bb σbb, wD G dd σdd]) H → va_D A (List.flatten [wF ff (bb 0) (dd 0), wB G bb σbb, wD G dd σdd]) → va_S A s.heap H locs → lv_has ls 4 [(0, .ref ff), (1, .int v1), (2, .int z.1), (3, .int z.2)] → W p l e (RM 4) s m args below meth c H locs 0 0 Q (F0 m 33 ls [])) :
    ∀ (n : Nat) (v2 : Int32) (v3 : Int32) (H : Heap) (locs : List Loc) (ls : Array Slot), va_P G.1 vwCl (List.flatten [wF ff (bb 0) (dd 0), wB G bb σbb, wD G dd σdd]) H → va_D A (List.flatten [wF ff (bb 0) (dd 0), wB G bb σbb, wD G dd σdd]) → va_S A s.heap H locs → lv_has ls 4 [(0, .ref ff), (1, .int v1), (2, .int v2), (3, .int v3)] → gX2_watchedCells_4 F σbb σdd v1 n v2 v3 = some z → W p l e (RM 4) s m args below meth c H locs 0 0 Q (F0 m 4 ls []) := by
  obtain ⟨hx, hb, hr, hml, hts, hown, hlocks, hA, hG⟩ := id K
  intro n
  induction n with
  | zero =>
    intro v2 v3 H locs ls hP hD hS hl h
    have h : none = some z := h
    cases h
  | succ n ih =>
    intro v2 v3 H locs ls hP hD hS hl h
    have h : gbX2_watchedCells_4 F σbb σdd v1 (gX2_watchedCells_4 F σbb σdd v1 n) v2 v3 = some z := h
    unfold gbX2_watchedCells_4 at h
    refine lv_iload_n hx hb dX2_watchedCells_4 rfl (lv_at hl 3 rfl) ?_
    refine lv_aload_n hx hb dX2_watchedCells_5 rfl (lv_at hl 0 rfl) ?_
    refine va_get (D := G.1) (cl := vwCl) (tys := tysG G) (ci := 2) (v := .ref (dd 0)) (C := RX2) (T := TX2) (N := 2) hx hb hts iX2 hown hG.1 hP 0 rfl rfl 1 (Nat.le_of_ble_eq_true rfl) (hts _ tw_1_126) (fun _ h9 => h9) rfl dX2_watchedCells_6 ?_
    refine va_get (D := G.1) (cl := vwCl) (tys := tysG G) (ci := 4) (v := .int (σdd.1 3)) (C := RX4) (T := TX4) (N := 6) hx hb hts iX4 hown hG.1 hP 5 rfl rfl 3 (Nat.le_of_ble_eq_true rfl) (hts _ tw_1_102) (fun _ h9 => h9) rfl dX2_watchedCells_9 ?_
    refine lv_icmp_ge (tgt := 33) hx hb dX2_watchedCells_12 (by decide) (fun c1 => ?_) (fun c1 => ?_)
    · have h := if_t c1 h
      cases h
      exact kk _ _ _ hP hD hS (lv_sub hl [0, 1, 2, 3] rfl)
    · have h := if_f c1 h
      refine lv_iload_n hx hb dX2_watchedCells_15 rfl (lv_at hl 2 rfl) ?_
      refine lv_aload_n hx hb dX2_watchedCells_16 rfl (lv_at hl 0 rfl) ?_
      refine va_get (D := G.1) (cl := vwCl) (tys := tysG G) (ci := 2) (v := .ref (dd 0)) (C := RX2) (T := TX2) (N := 2) hx hb hts iX2 hown hG.1 hP 0 rfl rfl 1 (Nat.le_of_ble_eq_true rfl) (hts _ tw_1_126) (fun _ h9 => h9) rfl dX2_watchedCells_17 ?_
      refine lv_iload_n hx hb dX2_watchedCells_20 rfl (lv_at hl 3 rfl) ?_
      refine lv_iload_n hx hb dX2_watchedCells_21 rfl (lv_at hl 1 rfl) ?_
      obtain ⟨r2, hc3, h⟩ := bd_ex h
      refine sl_V (q0 := 5) (ci := 4) (C := RX4) K (mX4_view l G F dd σdd v3 v1 hc3) tw_3_153 tw_1_6 tw_3_151 tw_3_152 tw_3_221 cdX4_view ⟨Nat.le_of_ble_eq_true rfl, Nat.le_of_ble_eq_true rfl⟩ hP hD hS [2] rfl rfl rfl rfl rfl rfl rfl hl.1 (Nat.le_of_ble_eq_true rfl) ⟨Nat.zero_le _, Nat.zero_le _⟩ dX2_watchedCells_22 (fun H locs hP hD hS => ?_)
      have hP : va_P G.1 vwCl (List.flatten [wF ff (bb 0) (dd 0), wB G bb σbb, wD G dd σdd]) H := hP
      have hD : va_D A (List.flatten [wF ff (bb 0) (dd 0), wB G bb σbb, wD G dd σdd]) := hD
      refine lv_ior hx hb dX2_watchedCells_25 ?_
      refine lv_istore_n (lv' := [(2, .int (v2 ||| r2)), (0, .ref ff), (1, .int v1), (3, .int v3)]) hx hb dX2_watchedCells_26 rfl hl (Nat.le_of_ble_eq_true rfl) rfl (fun ls hl => ?_)
      refine lv_iinc (v := v3 + 1) (lv' := [(3, .int (v3 + 1)), (2, .int (v2 ||| r2)), (0, .ref ff), (1, .int v1)]) hx hb dX2_watchedCells_27 hl (k := 3) rfl (by rw [li_1]) (Nat.le_of_ble_eq_true rfl) rfl (fun ls hl => ?_)
      refine lv_goto (tgt := 4) hx hb dX2_watchedCells_30 (by decide) ?_
      exact ih (v2 ||| r2) (v3 + 1) _ _ _ hP hD hS (lv_sub hl [2, 3, 1, 0] rfl) h
def fX2_watchedCells (F : Nat) (σbb : ST) (σdd : ST) (x1 : Int32) : Option (Int32) :=
  (gX2_watchedCells_4 F σbb σdd x1 F (0 : Int32) (0 : Int32)).bind fun z4 =>
    some z4.1
theorem cdX2_watchedCells : CallD yX2_watchedCells 1 := by decide +kernel
set_option maxHeartbeats 4000000 in
set_option maxRecDepth 100000 in
theorem mX2_watchedCells (l : Launch) (G : GP) (F : Nat) (ff : Nat) (bb : Nat → Nat) (dd : Nat → Nat) (σbb : ST) (σdd : ST) (x1 : Int32) {r : Int32} (h : fX2_watchedCells F σbb σdd x1 = some r) : CC l G yX2_watchedCells cX2_watchedCells 4 (some .int) 4 [.ref ff, .int x1] (List.flatten [wF ff (bb 0) (dd 0), wB G bb σbb, wD G dd σdd]) (List.flatten [wF ff (bb 0) (dd 0), wB G bb σbb, wD G dd σdd]) (some (.int r)) := by
  refine CC.of (by decide) (Nat.le_of_ble_eq_true rfl) ?_
  intro p e s m below meth c A K hP hD hS ls hl
  obtain ⟨hx, hb, hr, hml, hts, hown, hlocks, hA, hG⟩ := id K
  have hl : lv_has ls 4 [(0, .ref ff), (1, .int x1)] := hl
  unfold fX2_watchedCells at h
  refine lv_iconst (v := 0) hx hb dX2_watchedCells_0 li_0 ?_
  refine lv_istore_n (lv' := [(2, .int (0 : Int32)), (0, .ref ff), (1, .int x1)]) hx hb dX2_watchedCells_1 rfl hl (Nat.le_of_ble_eq_true rfl) rfl (fun ls hl => ?_)
  refine lv_iconst (v := 0) hx hb dX2_watchedCells_2 li_0 ?_
  refine lv_istore_n (lv' := [(3, .int (0 : Int32)), (2, .int (0 : Int32)), (0, .ref ff), (1, .int x1)]) hx hb dX2_watchedCells_3 rfl hl (Nat.le_of_ble_eq_true rfl) rfl (fun ls hl => ?_)
  obtain ⟨z4, hz5, h⟩ := bd_ex h
  refine kX2_watchedCells_4 K F ff bb dd σbb σdd x1 (fun H locs ls hP hD hS hl => ?_) F (0 : Int32) (0 : Int32) _ _ _ hP hD hS (lv_sub hl [2, 3, 1, 0] rfl) hz5
  refine lv_iload_n hx hb dX2_watchedCells_33 rfl (lv_at hl 2 rfl) ?_
  cases h
  exact rt_i K hP hD hS dX2_watchedCells_34
def gbX2_hiddenCell_39 (F : Nat) (σbb : ST) (σdd : ST) (v1 : Int32) (v2 : Int32) (v3 : Int32) (v4 : Int32) (rc : Int32 → Option (Nat × Int32)) (v5 : Int32) : Option (Nat × Int32) :=
  if (10 : Int32) ≤ v5 then
    some ((94 : Nat), v5)
  else
    (fX10_reach F (hgtI (0 : Int32).toNatClampNeg) v5 v1).bind fun r9 =>
    if (r9 &&& v4) = 0 then
      (fX1_standsAt F σbb v5 v2).bind fun r12 =>
      if r12 = 0 then
        some ((80 : Nat), v5)
      else
        rc (v5 + 1)
    else
      rc (v5 + 1)
def gX2_hiddenCell_39 (F : Nat) (σbb : ST) (σdd : ST) (v1 : Int32) (v2 : Int32) (v3 : Int32) (v4 : Int32) : Nat → Int32 → Option (Nat × Int32)
  | 0, _ => none
  | n + 1, v5 => gbX2_hiddenCell_39 F σbb σdd v1 v2 v3 v4 (gX2_hiddenCell_39 F σbb σdd v1 v2 v3 v4 n) v5
set_option maxHeartbeats 4000000 in
set_option maxRecDepth 100000 in
theorem kX2_hiddenCell_39 {p : Program} {l : Launch} {e : Env} {s : State} {m : MethodId} {args : Array Value} {below : List Frame} {meth : Method} {c : Code} {A : Nat → Prop} {Q : State → Prop} {G : GP} (K : Cx p s m meth c G cX2_hiddenCell RX2 7 (some .int) args A) (F : Nat) (ff : Nat) (bb : Nat → Nat) (dd : Nat → Nat) (σbb : ST) (σdd : ST) (v1 : Int32) (v2 : Int32) (v3 : Int32) (v4 : Int32) {z : Nat × Int32} (kk80 : z.1 = 80 → ∀ (H : Heap) (locs : List Loc) (ls : Array Slot), va_P G.1 vwCl (List.flatten [wF ff (bb 0) (dd 0), wB G bb σbb, wD G dd σdd]) H → va_D A (List.flatten [wF ff (bb 0) (dd 0), wB G bb σbb, wD G dd σdd]) → va_S A s.heap H locs → lv_has ls 7 [(0, .ref ff), (1, .int v1), (2, .int v2), (3, .int v3), (4, .int v4), (5, .int z.2)] → W p l e (RM 5) s m args below meth c H locs 0 0 Q (F0 m 80 ls [])) (kk94 : z.1 = 94 → ∀ (H : Heap) (locs : List Loc) (ls : Array Slot), va_P G.1 vwCl (List.flatten [wF ff (bb 0) (dd 0), wB G bb σbb, wD G dd σdd]) H → va_D A (List.flatten [wF ff (bb 0) (dd 0), wB G bb σbb, wD G dd σdd]) → va_S A s.heap H locs → lv_has ls 7 [(0, .ref ff), (1, .int v1), (2, .int v2), (3, .int v3), (4, .int v4), (5, .int z.2)] → W p l e (RM 5) s m args below meth c H locs 0 0 Q (F0 m 94 ls [])) :
    ∀ (n : Nat) (v5 : Int32) (H : Heap) (locs : List Loc) (ls : Array Slot), va_P G.1 vwCl (List.flatten [wF ff (bb 0) (dd 0), wB G bb σbb, wD G dd σdd]) H → va_D A (List.flatten [wF ff (bb 0) (dd 0), wB G bb σbb, wD G dd σdd]) → va_S A s.heap H locs → lv_has ls 7 [(0, .ref ff), (1, .int v1), (2, .int v2), (3, .int v3), (4, .int v4), (5, .int v5)] → gX2_hiddenCell_39 F σbb σdd v1 v2 v3 v4 n v5 = some z → W p l e (RM 5) s m args below meth c H locs 0 0 Q (F0 m 39 ls []) := by
  obtain ⟨hx, hb, hr, hml, hts, hown, hlocks, hA, hG⟩ := id K
  intro n
  induction n with
  | zero =>
    intro v5 H locs ls hP hD hS hl h
    have h : none = some z := h
    cases h
  | succ n ih =>
    intro v5 H locs ls hP hD hS hl h
    have h : gbX2_hiddenCell_39 F σbb σdd v1 v2 v3 v4 (gX2_hiddenCell_39 F σbb σdd v1 v2 v3 v4 n) v5 = some z := h
    unfold gbX2_hiddenCell_39 at h
    refine lv_iload hx hb dX2_hiddenCell_39 (lv_at hl 5 rfl) ?_
    refine lv_bipush (v := 10) hx hb dX2_hiddenCell_41 lb_10 ?_
    refine lv_icmp_ge (tgt := 94) hx hb dX2_hiddenCell_43 (by decide) (fun c8 => ?_) (fun c8 => ?_)
    · have h := if_t c8 h
      cases h
      exact kk94 rfl _ _ _ hP hD hS (lv_sub hl [0, 1, 2, 3, 4, 5] rfl)
    · have h := if_f c8 h
      refine va_getsN hx hb hG.2.2.1.1 hS hown (va_Nw.use rfl (hG.2.1 _ tw_3_222)) (fun _ h9 => h9) dX2_hiddenCell_46 ?_
      refine lv_iconst (v := 0) hx hb dX2_hiddenCell_49 li_0 ?_
      refine va_ti (v := .int (hgtI (0 : Int32).toNatClampNeg)) hx hb hG.2.2.1.2 hS (vpi (by decide)) rfl dX2_hiddenCell_50 ?_
      refine lv_iload hx hb dX2_hiddenCell_51 (lv_at hl 5 rfl) ?_
      refine lv_iload_n hx hb dX2_hiddenCell_53 rfl (lv_at hl 1 rfl) ?_
      obtain ⟨r9, hc10, h⟩ := bd_ex h
      refine sl_SN K (mX10_reach l G F (hgtI (0 : Int32).toNatClampNeg) v5 v1 hc10) tw_3_130 tw_1_1 tw_3_129 tw_3_128 cdX10_reach ⟨Nat.le_of_ble_eq_true rfl, Nat.le_of_ble_eq_true rfl⟩ hP hD hS [] rfl rfl rfl rfl hl.1 (Nat.le_of_ble_eq_true rfl) ⟨Nat.zero_le _, Nat.zero_le _⟩ dX2_hiddenCell_54 (fun H locs hP hD hS => ?_)
      have hP : va_P G.1 vwCl (List.flatten [wF ff (bb 0) (dd 0), wB G bb σbb, wD G dd σdd]) H := hP
      have hD : va_D A (List.flatten [wF ff (bb 0) (dd 0), wB G bb σbb, wD G dd σdd]) := hD
      refine lv_iload hx hb dX2_hiddenCell_57 (lv_at hl 4 rfl) ?_
      refine lv_iand hx hb dX2_hiddenCell_59 ?_
      refine lv_istore (lv' := [(6, .int (r9 &&& v4)), (0, .ref ff), (1, .int v1), (2, .int v2), (3, .int v3), (4, .int v4), (5, .int v5)]) hx hb dX2_hiddenCell_60 hl (Nat.le_of_ble_eq_true rfl) rfl (fun ls hl => ?_)
      refine lv_iload hx hb dX2_hiddenCell_62 (lv_at hl 0 rfl) ?_
      refine lv_if_ne (tgt := 88) hx hb dX2_hiddenCell_64 (by decide) (fun c11 => ?_) (fun c11 => ?_)
      · have h := if_f c11 h
        refine lv_iinc (v := v5 + 1) (lv' := [(5, .int (v5 + 1)), (6, .int (r9 &&& v4)), (0, .ref ff), (1, .int v1), (2, .int v2), (3, .int v3), (4, .int v4)]) hx hb dX2_hiddenCell_88 hl (k := 6) rfl (by rw [li_1]) (Nat.le_of_ble_eq_true rfl) rfl (fun ls hl => ?_)
        refine lv_goto (tgt := 39) hx hb dX2_hiddenCell_91 (by decide) ?_
        exact ih (v5 + 1) _ _ _ hP hD hS (lv_sub hl [2, 3, 4, 5, 6, 0] rfl) h
      · have h := if_t c11 h
        refine lv_aload_n hx hb dX2_hiddenCell_67 rfl (lv_at hl 1 rfl) ?_
        refine va_get (D := G.1) (cl := vwCl) (tys := tysG G) (ci := 2) (v := .ref (bb 0)) (C := RX2) (T := TX2) (N := 2) hx hb hts iX2 hown hG.1 hP 0 rfl rfl 0 (Nat.le_of_ble_eq_true rfl) (hts _ tw_1_123) (fun _ h9 => h9) rfl dX2_hiddenCell_68 ?_
        refine lv_iload hx hb dX2_hiddenCell_71 (lv_at hl 6 rfl) ?_
        refine lv_iload_n hx hb dX2_hiddenCell_73 rfl (lv_at hl 3 rfl) ?_
        obtain ⟨r12, hc13, h⟩ := bd_ex h
        refine sl_V (q0 := 1) (ci := 1) (C := RX1) K (mX1_standsAt l G F bb σbb v5 v2 hc13) tw_2_210 tw_1_5 tw_2_208 tw_2_209 tw_3_223 cdX1_standsAt ⟨Nat.le_of_ble_eq_true rfl, Nat.le_of_ble_eq_true rfl⟩ hP hD hS [1] rfl rfl rfl rfl rfl rfl rfl hl.1 (Nat.le_of_ble_eq_true rfl) ⟨Nat.zero_le _, Nat.zero_le _⟩ dX2_hiddenCell_74 (fun H locs hP hD hS => ?_)
        have hP : va_P G.1 vwCl (List.flatten [wF ff (bb 0) (dd 0), wB G bb σbb, wD G dd σdd]) H := hP
        have hD : va_D A (List.flatten [wF ff (bb 0) (dd 0), wB G bb σbb, wD G dd σdd]) := hD
        refine lv_if_ne (tgt := 88) hx hb dX2_hiddenCell_77 (by decide) (fun c14 => ?_) (fun c14 => ?_)
        · have h := if_f c14 h
          refine lv_iinc (v := v5 + 1) (lv' := [(5, .int (v5 + 1)), (6, .int (r9 &&& v4)), (0, .ref ff), (1, .int v1), (2, .int v2), (3, .int v3), (4, .int v4)]) hx hb dX2_hiddenCell_88 hl (k := 6) rfl (by rw [li_1]) (Nat.le_of_ble_eq_true rfl) rfl (fun ls hl => ?_)
          refine lv_goto (tgt := 39) hx hb dX2_hiddenCell_91 (by decide) ?_
          exact ih (v5 + 1) _ _ _ hP hD hS (lv_sub hl [2, 3, 4, 5, 6, 0] rfl) h
        · have h := if_t c14 h
          cases h
          exact kk80 rfl _ _ _ hP hD hS (lv_sub hl [1, 2, 3, 4, 5, 6] rfl)
def gbX2_hiddenCell_2 (F : Nat) (σbb : ST) (σdd : ST) (v1 : Int32) (rc : Int32 → Option (Nat × Int32 × Int32)) (v2 : Int32) : Option (Nat × Int32 × Int32) :=
  if (6 : Int32) ≤ v2 then
    some ((100 : Nat), v2, (0 : Int32))
  else
    (fX4_sunnyCells F σdd v1 v2).bind fun r2 =>
    (fX2_darkCells F σbb σdd v1 v2).bind fun r4 =>
    (fX2_watchedCells F σbb σdd v2).bind fun r6 =>
    (gX2_hiddenCell_39 F σbb σdd v1 v2 (r2 &&& (r4 ^^^ (-1 : Int32))) ((r2 &&& (r4 ^^^ (-1 : Int32))) &&& r6) F (0 : Int32)).bind fun z15 =>
      if z15.1 = 80 then
        some ((80 : Nat), v2, z15.2)
      else
        rc (v2 + 1)
def gX2_hiddenCell_2 (F : Nat) (σbb : ST) (σdd : ST) (v1 : Int32) : Nat → Int32 → Option (Nat × Int32 × Int32)
  | 0, _ => none
  | n + 1, v2 => gbX2_hiddenCell_2 F σbb σdd v1 (gX2_hiddenCell_2 F σbb σdd v1 n) v2
set_option maxHeartbeats 4000000 in
set_option maxRecDepth 100000 in
theorem kX2_hiddenCell_2 {p : Program} {l : Launch} {e : Env} {s : State} {m : MethodId} {args : Array Value} {below : List Frame} {meth : Method} {c : Code} {A : Nat → Prop} {Q : State → Prop} {G : GP} (K : Cx p s m meth c G cX2_hiddenCell RX2 7 (some .int) args A) (F : Nat) (ff : Nat) (bb : Nat → Nat) (dd : Nat → Nat) (σbb : ST) (σdd : ST) (v1 : Int32) {z : Nat × Int32 × Int32} (kk80 : z.1 = 80 → ∀ (H : Heap) (locs : List Loc) (ls : Array Slot), va_P G.1 vwCl (List.flatten [wF ff (bb 0) (dd 0), wB G bb σbb, wD G dd σdd]) H → va_D A (List.flatten [wF ff (bb 0) (dd 0), wB G bb σbb, wD G dd σdd]) → va_S A s.heap H locs → lv_has ls 7 [(0, .ref ff), (1, .int v1), (2, .int z.2.1), (5, .int z.2.2)] → W p l e (RM 5) s m args below meth c H locs 0 0 Q (F0 m 80 ls [])) (kk100 : z.1 = 100 → ∀ (H : Heap) (locs : List Loc) (ls : Array Slot), va_P G.1 vwCl (List.flatten [wF ff (bb 0) (dd 0), wB G bb σbb, wD G dd σdd]) H → va_D A (List.flatten [wF ff (bb 0) (dd 0), wB G bb σbb, wD G dd σdd]) → va_S A s.heap H locs → lv_has ls 7 [(0, .ref ff), (1, .int v1), (2, .int z.2.1)] → W p l e (RM 5) s m args below meth c H locs 0 0 Q (F0 m 100 ls [])) :
    ∀ (n : Nat) (v2 : Int32) (H : Heap) (locs : List Loc) (ls : Array Slot), va_P G.1 vwCl (List.flatten [wF ff (bb 0) (dd 0), wB G bb σbb, wD G dd σdd]) H → va_D A (List.flatten [wF ff (bb 0) (dd 0), wB G bb σbb, wD G dd σdd]) → va_S A s.heap H locs → lv_has ls 7 [(0, .ref ff), (1, .int v1), (2, .int v2)] → gX2_hiddenCell_2 F σbb σdd v1 n v2 = some z → W p l e (RM 5) s m args below meth c H locs 0 0 Q (F0 m 2 ls []) := by
  obtain ⟨hx, hb, hr, hml, hts, hown, hlocks, hA, hG⟩ := id K
  intro n
  induction n with
  | zero =>
    intro v2 H locs ls hP hD hS hl h
    have h : none = some z := h
    cases h
  | succ n ih =>
    intro v2 H locs ls hP hD hS hl h
    have h : gbX2_hiddenCell_2 F σbb σdd v1 (gX2_hiddenCell_2 F σbb σdd v1 n) v2 = some z := h
    unfold gbX2_hiddenCell_2 at h
    refine lv_iload_n hx hb dX2_hiddenCell_2 rfl (lv_at hl 2 rfl) ?_
    refine lv_bipush (v := 6) hx hb dX2_hiddenCell_3 lb_6 ?_
    refine lv_icmp_ge (tgt := 100) hx hb dX2_hiddenCell_5 (by decide) (fun c1 => ?_) (fun c1 => ?_)
    · have h := if_t c1 h
      cases h
      exact kk100 rfl _ _ _ hP hD hS (lv_sub hl [0, 1, 2] rfl)
    · have h := if_f c1 h
      refine lv_aload_n hx hb dX2_hiddenCell_8 rfl (lv_at hl 0 rfl) ?_
      refine va_get (D := G.1) (cl := vwCl) (tys := tysG G) (ci := 2) (v := .ref (dd 0)) (C := RX2) (T := TX2) (N := 2) hx hb hts iX2 hown hG.1 hP 0 rfl rfl 1 (Nat.le_of_ble_eq_true rfl) (hts _ tw_1_126) (fun _ h9 => h9) rfl dX2_hiddenCell_9 ?_
      refine lv_iload_n hx hb dX2_hiddenCell_12 rfl (lv_at hl 1 rfl) ?_
      refine lv_iload_n hx hb dX2_hiddenCell_13 rfl (lv_at hl 2 rfl) ?_
      obtain ⟨r2, hc3, h⟩ := bd_ex h
      refine sl_V (q0 := 5) (ci := 4) (C := RX4) K (mX4_sunnyCells l G F dd σdd v1 v2 hc3) tw_3_139 tw_1_6 tw_3_137 tw_3_138 tw_3_136 cdX4_sunnyCells ⟨Nat.le_of_ble_eq_true rfl, Nat.le_of_ble_eq_true rfl⟩ hP hD hS [2] rfl rfl rfl rfl rfl rfl rfl hl.1 (Nat.le_of_ble_eq_true rfl) ⟨Nat.zero_le _, Nat.zero_le _⟩ dX2_hiddenCell_14 (fun H locs hP hD hS => ?_)
      have hP : va_P G.1 vwCl (List.flatten [wF ff (bb 0) (dd 0), wB G bb σbb, wD G dd σdd]) H := hP
      have hD : va_D A (List.flatten [wF ff (bb 0) (dd 0), wB G bb σbb, wD G dd σdd]) := hD
      refine lv_aload_n hx hb dX2_hiddenCell_17 rfl (lv_at hl 0 rfl) ?_
      refine lv_iload_n hx hb dX2_hiddenCell_18 rfl (lv_at hl 1 rfl) ?_
      refine lv_iload_n hx hb dX2_hiddenCell_19 rfl (lv_at hl 2 rfl) ?_
      obtain ⟨r4, hc5, h⟩ := bd_ex h
      refine sl_V (q0 := 0) (ci := 2) (C := RX2) K (mX2_darkCells l G F ff bb dd σbb σdd v1 v2 hc5) tw_3_126 tw_1_4 tw_3_124 tw_3_125 tw_3_216 cdX2_darkCells ⟨Nat.le_of_ble_eq_true rfl, Nat.le_of_ble_eq_true rfl⟩ hP hD hS [0, 1, 2] rfl rfl rfl rfl rfl rfl rfl hl.1 (Nat.le_of_ble_eq_true rfl) ⟨Nat.zero_le _, Nat.zero_le _⟩ dX2_hiddenCell_20 (fun H locs hP hD hS => ?_)
      have hP : va_P G.1 vwCl (List.flatten [wF ff (bb 0) (dd 0), wB G bb σbb, wD G dd σdd]) H := hP
      have hD : va_D A (List.flatten [wF ff (bb 0) (dd 0), wB G bb σbb, wD G dd σdd]) := hD
      refine lv_iconst (v := -1) hx hb dX2_hiddenCell_23 li_m1 ?_
      refine lv_ixor hx hb dX2_hiddenCell_24 ?_
      refine lv_iand hx hb dX2_hiddenCell_25 ?_
      refine lv_istore_n (lv' := [(3, .int (r2 &&& (r4 ^^^ (-1 : Int32)))), (0, .ref ff), (1, .int v1), (2, .int v2)]) hx hb dX2_hiddenCell_26 rfl hl (Nat.le_of_ble_eq_true rfl) rfl (fun ls hl => ?_)
      refine lv_iload_n hx hb dX2_hiddenCell_27 rfl (lv_at hl 0 rfl) ?_
      refine lv_aload_n hx hb dX2_hiddenCell_28 rfl (lv_at hl 1 rfl) ?_
      refine lv_iload_n hx hb dX2_hiddenCell_29 rfl (lv_at hl 3 rfl) ?_
      obtain ⟨r6, hc7, h⟩ := bd_ex h
      refine sl_V (q0 := 0) (ci := 2) (C := RX2) K (mX2_watchedCells l G F ff bb dd σbb σdd v2 hc7) tw_3_220 tw_1_4 tw_3_218 tw_3_219 tw_3_217 cdX2_watchedCells ⟨Nat.le_of_ble_eq_true rfl, Nat.le_of_ble_eq_true rfl⟩ hP hD hS [0, 1, 2] rfl rfl rfl rfl rfl rfl rfl hl.1 (Nat.le_of_ble_eq_true rfl) ⟨Nat.zero_le _, Nat.zero_le _⟩ dX2_hiddenCell_30 (fun H locs hP hD hS => ?_)
      have hP : va_P G.1 vwCl (List.flatten [wF ff (bb 0) (dd 0), wB G bb σbb, wD G dd σdd]) H := hP
      have hD : va_D A (List.flatten [wF ff (bb 0) (dd 0), wB G bb σbb, wD G dd σdd]) := hD
      refine lv_iand hx hb dX2_hiddenCell_33 ?_
      refine lv_istore (lv' := [(4, .int ((r2 &&& (r4 ^^^ (-1 : Int32))) &&& r6)), (3, .int (r2 &&& (r4 ^^^ (-1 : Int32)))), (0, .ref ff), (1, .int v1), (2, .int v2)]) hx hb dX2_hiddenCell_34 hl (Nat.le_of_ble_eq_true rfl) rfl (fun ls hl => ?_)
      refine lv_iconst (v := 0) hx hb dX2_hiddenCell_36 li_0 ?_
      refine lv_istore (lv' := [(5, .int (0 : Int32)), (4, .int ((r2 &&& (r4 ^^^ (-1 : Int32))) &&& r6)), (3, .int (r2 &&& (r4 ^^^ (-1 : Int32)))), (0, .ref ff), (1, .int v1), (2, .int v2)]) hx hb dX2_hiddenCell_37 hl (Nat.le_of_ble_eq_true rfl) rfl (fun ls hl => ?_)
      obtain ⟨z15, hz16, h⟩ := bd_ex h
      refine kX2_hiddenCell_39 K F ff bb dd σbb σdd v1 v2 (r2 &&& (r4 ^^^ (-1 : Int32))) ((r2 &&& (r4 ^^^ (-1 : Int32))) &&& r6) (fun ht H locs ls hP hD hS hl => ?_) (fun ht H locs ls hP hD hS hl => ?_) F (0 : Int32) _ _ _ hP hD hS (lv_sub hl [3, 4, 5, 2, 1, 0] rfl) hz16
      · have h := if_t ht h
        cases h
        exact kk80 rfl _ _ _ hP hD hS (lv_sub hl [0, 1, 2, 5] rfl)
      · have h := if_f (by rw [ht]; decide) h
        refine lv_iinc (v := v2 + 1) (lv' := [(2, .int (v2 + 1)), (0, .ref ff), (1, .int v1), (3, .int (r2 &&& (r4 ^^^ (-1 : Int32)))), (4, .int ((r2 &&& (r4 ^^^ (-1 : Int32))) &&& r6)), (5, .int z15.2)]) hx hb dX2_hiddenCell_94 hl (k := 2) rfl (by rw [li_1]) (Nat.le_of_ble_eq_true rfl) rfl (fun ls hl => ?_)
        refine lv_goto (tgt := 2) hx hb dX2_hiddenCell_97 (by decide) ?_
        exact ih (v2 + 1) _ _ _ hP hD hS (lv_sub hl [1, 2, 0] rfl) h
def fX2_hiddenCell (F : Nat) (σbb : ST) (σdd : ST) (x1 : Int32) : Option (Int32) :=
  (gX2_hiddenCell_2 F σbb σdd x1 F (0 : Int32)).bind fun z17 =>
    if z17.1 = 80 then
      some (((10 : Int32) * z17.2.1) + z17.2.2)
    else
      some (-9 : Int32)
theorem cdX2_hiddenCell : CallD yX2_hiddenCell 1 := by decide +kernel
set_option maxHeartbeats 4000000 in
set_option maxRecDepth 100000 in
theorem mX2_hiddenCell (l : Launch) (G : GP) (F : Nat) (ff : Nat) (bb : Nat → Nat) (dd : Nat → Nat) (σbb : ST) (σdd : ST) (x1 : Int32) {r : Int32} (h : fX2_hiddenCell F σbb σdd x1 = some r) : CC l G yX2_hiddenCell cX2_hiddenCell 7 (some .int) 5 [.ref ff, .int x1] (List.flatten [wF ff (bb 0) (dd 0), wB G bb σbb, wD G dd σdd]) (List.flatten [wF ff (bb 0) (dd 0), wB G bb σbb, wD G dd σdd]) (some (.int r)) := by
  refine CC.of (by decide) (Nat.le_of_ble_eq_true rfl) ?_
  intro p e s m below meth c A K hP hD hS ls hl
  obtain ⟨hx, hb, hr, hml, hts, hown, hlocks, hA, hG⟩ := id K
  have hl : lv_has ls 7 [(0, .ref ff), (1, .int x1)] := hl
  unfold fX2_hiddenCell at h
  refine lv_iconst (v := 0) hx hb dX2_hiddenCell_0 li_0 ?_
  refine lv_istore_n (lv' := [(2, .int (0 : Int32)), (0, .ref ff), (1, .int x1)]) hx hb dX2_hiddenCell_1 rfl hl (Nat.le_of_ble_eq_true rfl) rfl (fun ls hl => ?_)
  obtain ⟨z17, hz18, h⟩ := bd_ex h
  refine kX2_hiddenCell_2 K F ff bb dd σbb σdd x1 (fun ht H locs ls hP hD hS hl => ?_) (fun ht H locs ls hP hD hS hl => ?_) F (0 : Int32) _ _ _ hP hD hS (lv_sub hl [1, 2, 0] rfl) hz18
  · have h := if_t ht h
    refine lv_bipush (v := 10) hx hb dX2_hiddenCell_80 lb_10 ?_
    refine lv_iload_n hx hb dX2_hiddenCell_82 rfl (lv_at hl 2 rfl) ?_
    refine lv_imul hx hb dX2_hiddenCell_83 ?_
    refine lv_iload hx hb dX2_hiddenCell_84 (lv_at hl 3 rfl) ?_
    refine lv_iadd hx hb dX2_hiddenCell_86 ?_
    cases h
    exact rt_i K hP hD hS dX2_hiddenCell_87
  · have h := if_f (by rw [ht]; decide) h
    refine lv_bipush (v := -9) hx hb dX2_hiddenCell_100 lb_m9 ?_
    cases h
    exact rt_i K hP hD hS dX2_hiddenCell_102
def fX2_copyFrom (F : Nat) (σbb : ST) (σdd : ST) (σb2 : ST) (σd2 : ST)  : Option (ST × ST) :=
  (fX1_copyFrom F σbb σb2).bind fun r1 =>
  (fX4_copyFrom F σdd σd2).bind fun r3 =>
  some (r1, r3)
theorem cdX2_copyFrom : CallD yX2_copyFrom 1 := by decide +kernel
set_option maxHeartbeats 4000000 in
set_option maxRecDepth 100000 in
theorem mX2_copyFrom (l : Launch) (G : GP) (F : Nat) (ff : Nat) (bb : Nat → Nat) (dd : Nat → Nat) (f2 : Nat) (b2 : Nat → Nat) (d2 : Nat → Nat) (σbb : ST) (σdd : ST) (σb2 : ST) (σd2 : ST)  {r : ST × ST} (h : fX2_copyFrom F σbb σdd σb2 σd2  = some r) : CC l G yX2_copyFrom cX2_copyFrom 2 none 4 [.ref ff, .ref f2] (List.flatten [wF ff (bb 0) (dd 0), wB G bb σbb, wD G dd σdd, wF f2 (b2 0) (d2 0), wB G b2 σb2, wD G d2 σd2]) (List.flatten [wF ff (bb 0) (dd 0), wB G bb r.1, wD G dd r.2, wF f2 (b2 0) (d2 0), wB G b2 σb2, wD G d2 σd2]) none := by
  refine CC.of (by decide) (Nat.le_of_ble_eq_true rfl) ?_
  intro p e s m below meth c A K hP hD hS ls hl
  obtain ⟨hx, hb, hr, hml, hts, hown, hlocks, hA, hG⟩ := id K
  have hl : lv_has ls 2 [(0, .ref ff), (1, .ref f2)] := hl
  unfold fX2_copyFrom at h
  refine lv_aload_n hx hb dX2_copyFrom_0 rfl (lv_at hl 0 rfl) ?_
  refine va_get (D := G.1) (cl := vwCl) (tys := tysG G) (ci := 2) (v := .ref (bb 0)) (C := RX2) (T := TX2) (N := 2) hx hb hts iX2 hown hG.1 hP 0 rfl rfl 0 (Nat.le_of_ble_eq_true rfl) (hts _ tw_1_123) (fun _ h9 => h9) rfl dX2_copyFrom_1 ?_
  refine lv_aload_n hx hb dX2_copyFrom_4 rfl (lv_at hl 1 rfl) ?_
  refine va_get (D := G.1) (cl := vwCl) (tys := tysG G) (ci := 2) (v := .ref (b2 0)) (C := RX2) (T := TX2) (N := 2) hx hb hts iX2 hown hG.1 hP 16 rfl rfl 0 (Nat.le_of_ble_eq_true rfl) (hts _ tw_1_123) (fun _ h9 => h9) rfl dX2_copyFrom_5 ?_
  obtain ⟨r1, hc2, h⟩ := bd_ex h
  refine sl_V (q0 := 1) (ci := 1) (C := RX1) K (mX1_copyFrom l G F bb b2 σbb σb2 hc2) tw_3_34 tw_1_5 tw_3_32 tw_3_33 tw_3_31 cdX1_copyFrom ⟨Nat.le_of_ble_eq_true rfl, Nat.le_of_ble_eq_true rfl⟩ hP hD hS [1, 4] rfl rfl rfl rfl rfl rfl rfl hl.1 (Nat.le_of_ble_eq_true rfl) ⟨Nat.zero_le _, Nat.zero_le _⟩ dX2_copyFrom_8 (fun H locs hP hD hS => ?_)
  have hP : va_P G.1 vwCl (List.flatten [wF ff (bb 0) (dd 0), wB G bb r1, wD G dd σdd, wF f2 (b2 0) (d2 0), wB G b2 σb2, wD G d2 σd2]) H := hP
  have hD : va_D A (List.flatten [wF ff (bb 0) (dd 0), wB G bb r1, wD G dd σdd, wF f2 (b2 0) (d2 0), wB G b2 σb2, wD G d2 σd2]) := hD
  refine lv_aload_n hx hb dX2_copyFrom_11 rfl (lv_at hl 0 rfl) ?_
  refine va_get (D := G.1) (cl := vwCl) (tys := tysG G) (ci := 2) (v := .ref (dd 0)) (C := RX2) (T := TX2) (N := 2) hx hb hts iX2 hown hG.1 hP 0 rfl rfl 1 (Nat.le_of_ble_eq_true rfl) (hts _ tw_1_126) (fun _ h9 => h9) rfl dX2_copyFrom_12 ?_
  refine lv_aload_n hx hb dX2_copyFrom_15 rfl (lv_at hl 1 rfl) ?_
  refine va_get (D := G.1) (cl := vwCl) (tys := tysG G) (ci := 2) (v := .ref (d2 0)) (C := RX2) (T := TX2) (N := 2) hx hb hts iX2 hown hG.1 hP 16 rfl rfl 1 (Nat.le_of_ble_eq_true rfl) (hts _ tw_1_126) (fun _ h9 => h9) rfl dX2_copyFrom_16 ?_
  obtain ⟨r3, hc4, h⟩ := bd_ex h
  refine sl_V (q0 := 5) (ci := 4) (C := RX4) K (mX4_copyFrom l G F dd d2 σdd σd2 hc4) tw_3_38 tw_1_6 tw_3_36 tw_3_37 tw_3_35 cdX4_copyFrom ⟨Nat.le_of_ble_eq_true rfl, Nat.le_of_ble_eq_true rfl⟩ hP hD hS [2, 5] rfl rfl rfl rfl rfl rfl rfl hl.1 (Nat.le_of_ble_eq_true rfl) ⟨Nat.zero_le _, Nat.zero_le _⟩ dX2_copyFrom_19 (fun H locs hP hD hS => ?_)
  have hP : va_P G.1 vwCl (List.flatten [wF ff (bb 0) (dd 0), wB G bb r1, wD G dd r3, wF f2 (b2 0) (d2 0), wB G b2 σb2, wD G d2 σd2]) H := hP
  have hD : va_D A (List.flatten [wF ff (bb 0) (dd 0), wB G bb r1, wD G dd r3, wF f2 (b2 0) (d2 0), wB G b2 σb2, wD G d2 σd2]) := hD
  cases h
  exact rt_v K hP hD hS dX2_copyFrom_22
