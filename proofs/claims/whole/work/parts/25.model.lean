def gbX11_rowDark_8 (F : Nat) (σxx : ST) (v1 : Int32) (v2 : Int32) (rc : Int32 → Int32 → Int32 → Option (Int32 × Int32 × Int32)) (v3 : Int32) (v4 : Int32) (v5 : Int32) : Option (Int32 × Int32 × Int32) :=
  if (10 : Int32) ≤ v5 then
    some (v3, v4, v5)
  else
    if ((((30 : Int32) * v2) + ((3 : Int32) * v5)) + (v4 - v4 / (3 : Int32) * (3 : Int32))) < 0 ∨ 480 ≤ ((((30 : Int32) * v2) + ((3 : Int32) * v5)) + (v4 - v4 / (3 : Int32) * (3 : Int32))).toNatClampNeg then none else
    nm (v3 ||| (σxx.2.1 26 ((((30 : Int32) * v2) + ((3 : Int32) * v5)) + (v4 - v4 / (3 : Int32) * (3 : Int32))).toNatClampNeg)) fun (y3 : Int32) =>
    rc y3 (v4 / (3 : Int32)) (v5 + 1)
def gX11_rowDark_8 (F : Nat) (σxx : ST) (v1 : Int32) (v2 : Int32) : Nat → Int32 → Int32 → Int32 → Option (Int32 × Int32 × Int32)
  | 0, _, _, _ => none
  | n + 1, v3, v4, v5 => gbX11_rowDark_8 F σxx v1 v2 (gX11_rowDark_8 F σxx v1 v2 n) v3 v4 v5
set_option maxHeartbeats 4000000 in
set_option maxRecDepth 100000 in
theorem kX11_rowDark_8 {p : Program} {l : Launch} {e : Env} {s : State} {m : MethodId} {args : Array Value} {below : List Frame} {meth : Method} {c : Code} {A : Nat → Prop} {Q : State → Prop} {G : GP} (K : Cx p s m meth c G cX11_rowDark RX11 6 (some .int) args A) (F : Nat) (xx : Nat → Nat) (σxx : ST) (v1 : Int32) (v2 : Int32) {z : Int32 × Int32 × Int32} (kk : ∀ (H : Heap) (locs : List Loc) (ls : Array Slot), va_P G.1 vwCl (List.flatten [wX G xx σxx]) H → va_D A (List.flatten [wX G xx σxx]) → va_S A s.heap H locs → lv_has ls 6 [(0, .ref (xx 0)), (1, .int v1), (2, .int v2), (3, .int z.1), (4, .int z.2.1), (5, .int z.2.2)] → W p l e (RM 1) s m args below meth c H locs 0 0 Q (F0 m 49 ls [])) :
    ∀ (n : Nat) (v3 : Int32) (v4 : Int32) (v5 : Int32) (H : Heap) (locs : List Loc) (ls : Array Slot), va_P G.1 vwCl (List.flatten [wX G xx σxx]) H → va_D A (List.flatten [wX G xx σxx]) → va_S A s.heap H locs → lv_has ls 6 [(0, .ref (xx 0)), (1, .int v1), (2, .int v2), (3, .int v3), (4, .int v4), (5, .int v5)] → gX11_rowDark_8 F σxx v1 v2 n v3 v4 v5 = some z → W p l e (RM 1) s m args below meth c H locs 0 0 Q (F0 m 8 ls []) := by
  obtain ⟨hx, hb, hr, hml, hts, hown, hlocks, hA, hG⟩ := id K
  intro n
  induction n with
  | zero =>
    intro v3 v4 v5 H locs ls hP hD hS hl h
    have h : none = some z := h
    cases h
  | succ n ih =>
    intro v3 v4 v5 H locs ls hP hD hS hl h
    have h : gbX11_rowDark_8 F σxx v1 v2 (gX11_rowDark_8 F σxx v1 v2 n) v3 v4 v5 = some z := h
    unfold gbX11_rowDark_8 at h
    refine lv_iload hx hb dX11_rowDark_8 (lv_at hl 5 rfl) ?_
    refine lv_bipush (v := 10) hx hb dX11_rowDark_10 lb_10 ?_
    refine lv_icmp_ge (tgt := 49) hx hb dX11_rowDark_12 (by decide) (fun c1 => ?_) (fun c1 => ?_)
    · have h := if_t c1 h
      cases h
      exact kk _ _ _ hP hD hS (lv_sub hl [0, 1, 2, 3, 4, 5] rfl)
    · have h := if_f c1 h
      refine lv_iload_n hx hb dX11_rowDark_15 rfl (lv_at hl 3 rfl) ?_
      refine lv_aload_n hx hb dX11_rowDark_16 rfl (lv_at hl 0 rfl) ?_
      refine va_get (D := G.1) (cl := vwCl) (tys := tysG G) (ci := 11) (v := .ref (xx 27)) (C := RX11) (T := TX11) (N := 37) hx hb hts iX11 hown hG.1 hP 0 rfl rfl 26 (Nat.le_of_ble_eq_true rfl) (hts _ tw_4_123) (fun _ h9 => h9) rfl dX11_rowDark_17 ?_
      refine lv_bipush (v := 30) hx hb dX11_rowDark_20 lb_30 ?_
      refine lv_iload_n hx hb dX11_rowDark_22 rfl (lv_at hl 2 rfl) ?_
      refine lv_imul hx hb dX11_rowDark_23 ?_
      refine lv_iconst (v := 3) hx hb dX11_rowDark_24 li_3 ?_
      refine lv_iload hx hb dX11_rowDark_25 (lv_at hl 5 rfl) ?_
      refine lv_imul hx hb dX11_rowDark_27 ?_
      refine lv_iadd hx hb dX11_rowDark_28 ?_
      refine lv_iload hx hb dX11_rowDark_29 (lv_at hl 4 rfl) ?_
      refine lv_iconst (v := 3) hx hb dX11_rowDark_31 li_3 ?_
      refine lv_irem hx hb dX11_rowDark_32 (by decide) ?_
      refine lv_iadd hx hb dX11_rowDark_33 ?_
      obtain ⟨ck2, h⟩ := ck h
      refine va_iald hx hb hG.1 hP 14 0 rfl rfl ck2 dX11_rowDark_34 ?_
      refine lv_ior hx hb dX11_rowDark_35 ?_
      obtain ⟨y3, e4, h⟩ := nm_ex h
      refine top_nm e4 ?_
      refine lv_istore_n (lv' := [(3, .int y3), (0, .ref (xx 0)), (1, .int v1), (2, .int v2), (4, .int v4), (5, .int v5)]) hx hb dX11_rowDark_36 rfl hl (Nat.le_of_ble_eq_true rfl) rfl (fun ls hl => ?_)
      refine lv_iload hx hb dX11_rowDark_37 (lv_at hl 4 rfl) ?_
      refine lv_iconst (v := 3) hx hb dX11_rowDark_39 li_3 ?_
      refine lv_idiv hx hb dX11_rowDark_40 (by decide) ?_
      refine lv_istore (lv' := [(4, .int (v4 / (3 : Int32))), (3, .int y3), (0, .ref (xx 0)), (1, .int v1), (2, .int v2), (5, .int v5)]) hx hb dX11_rowDark_41 hl (Nat.le_of_ble_eq_true rfl) rfl (fun ls hl => ?_)
      refine lv_iinc (v := v5 + 1) (lv' := [(5, .int (v5 + 1)), (4, .int (v4 / (3 : Int32))), (3, .int y3), (0, .ref (xx 0)), (1, .int v1), (2, .int v2)]) hx hb dX11_rowDark_43 hl (k := 5) rfl (by rw [li_1]) (Nat.le_of_ble_eq_true rfl) rfl (fun ls hl => ?_)
      refine lv_goto (tgt := 8) hx hb dX11_rowDark_46 (by decide) ?_
      exact ih y3 (v4 / (3 : Int32)) (v5 + 1) _ _ _ hP hD hS (lv_sub hl [3, 4, 5, 2, 1, 0] rfl) h
def fX11_rowDark (F : Nat) (σxx : ST) (x1 : Int32) (x2 : Int32) : Option (Int32) :=
  (gX11_rowDark_8 F σxx x1 x2 F (0 : Int32) x1 (0 : Int32)).bind fun z5 =>
    some z5.1
theorem cdX11_rowDark : CallD yX11_rowDark 2 := by decide +kernel
set_option maxHeartbeats 4000000 in
set_option maxRecDepth 100000 in
theorem mX11_rowDark (l : Launch) (G : GP) (F : Nat) (xx : Nat → Nat) (σxx : ST) (x1 : Int32) (x2 : Int32) {r : Int32} (h : fX11_rowDark F σxx x1 x2 = some r) : CC l G yX11_rowDark cX11_rowDark 6 (some .int) 1 [.ref (xx 0), .int x1, .int x2] (List.flatten [wX G xx σxx]) (List.flatten [wX G xx σxx]) (some (.int r)) := by
  refine CC.of (by decide) (Nat.le_of_ble_eq_true rfl) ?_
  intro p e s m below meth c A K hP hD hS ls hl
  obtain ⟨hx, hb, hr, hml, hts, hown, hlocks, hA, hG⟩ := id K
  have hl : lv_has ls 6 [(0, .ref (xx 0)), (1, .int x1), (2, .int x2)] := hl
  unfold fX11_rowDark at h
  refine lv_iconst (v := 0) hx hb dX11_rowDark_0 li_0 ?_
  refine lv_istore_n (lv' := [(3, .int (0 : Int32)), (0, .ref (xx 0)), (1, .int x1), (2, .int x2)]) hx hb dX11_rowDark_1 rfl hl (Nat.le_of_ble_eq_true rfl) rfl (fun ls hl => ?_)
  refine lv_iload_n hx hb dX11_rowDark_2 rfl (lv_at hl 2 rfl) ?_
  refine lv_istore (lv' := [(4, .int x1), (3, .int (0 : Int32)), (0, .ref (xx 0)), (1, .int x1), (2, .int x2)]) hx hb dX11_rowDark_3 hl (Nat.le_of_ble_eq_true rfl) rfl (fun ls hl => ?_)
  refine lv_iconst (v := 0) hx hb dX11_rowDark_5 li_0 ?_
  refine lv_istore (lv' := [(5, .int (0 : Int32)), (4, .int x1), (3, .int (0 : Int32)), (0, .ref (xx 0)), (1, .int x1), (2, .int x2)]) hx hb dX11_rowDark_6 hl (Nat.le_of_ble_eq_true rfl) rfl (fun ls hl => ?_)
  obtain ⟨z5, hz6, h⟩ := bd_ex h
  refine kX11_rowDark_8 K F xx σxx x1 x2 (fun H locs ls hP hD hS hl => ?_) F (0 : Int32) x1 (0 : Int32) _ _ _ hP hD hS (lv_sub hl [3, 4, 5, 2, 1, 0] rfl) hz6
  refine lv_iload_n hx hb dX11_rowDark_49 rfl (lv_at hl 3 rfl) ?_
  cases h
  exact rt_i K hP hD hS dX11_rowDark_50
def gbX11_isFit_4 (F : Nat) (σxx : ST) (v1 : Int32) (rc : Int32 → Int32 → Option (Int32 × Int32)) (v2 : Int32) (v3 : Int32) : Option (Int32 × Int32) :=
  if (σxx.1 23) ≤ v3 then
    some (v2, v3)
  else
    if v2 = 0 then
      some (v2, v3)
    else
      if v3 < 0 ∨ 6 ≤ v3.toNatClampNeg then none else
      (fX11_rowDark F σxx v1 (σxx.2.1 24 v3.toNatClampNeg)).bind fun r4 =>
      if r4 = (σxx.2.1 25 v3.toNatClampNeg) then
        rc (1 : Int32) (v3 + 1)
      else
        rc (0 : Int32) (v3 + 1)
def gX11_isFit_4 (F : Nat) (σxx : ST) (v1 : Int32) : Nat → Int32 → Int32 → Option (Int32 × Int32)
  | 0, _, _ => none
  | n + 1, v2, v3 => gbX11_isFit_4 F σxx v1 (gX11_isFit_4 F σxx v1 n) v2 v3
set_option maxHeartbeats 4000000 in
set_option maxRecDepth 100000 in
theorem kX11_isFit_4 {p : Program} {l : Launch} {e : Env} {s : State} {m : MethodId} {args : Array Value} {below : List Frame} {meth : Method} {c : Code} {A : Nat → Prop} {Q : State → Prop} {G : GP} (K : Cx p s m meth c G cX11_isFit RX11 4 (some .boolean) args A) (F : Nat) (xx : Nat → Nat) (σxx : ST) (v1 : Int32) {z : Int32 × Int32} (kk : ∀ (H : Heap) (locs : List Loc) (ls : Array Slot), va_P G.1 vwCl (List.flatten [wX G xx σxx]) H → va_D A (List.flatten [wX G xx σxx]) → va_S A s.heap H locs → lv_has ls 4 [(0, .ref (xx 0)), (1, .int v1), (2, .int z.1), (3, .int z.2)] → W p l e (RM 2) s m args below meth c H locs 0 0 Q (F0 m 48 ls [])) :
    ∀ (n : Nat) (v2 : Int32) (v3 : Int32) (H : Heap) (locs : List Loc) (ls : Array Slot), va_P G.1 vwCl (List.flatten [wX G xx σxx]) H → va_D A (List.flatten [wX G xx σxx]) → va_S A s.heap H locs → lv_has ls 4 [(0, .ref (xx 0)), (1, .int v1), (2, .int v2), (3, .int v3)] → gX11_isFit_4 F σxx v1 n v2 v3 = some z → W p l e (RM 2) s m args below meth c H locs 0 0 Q (F0 m 4 ls []) := by
  obtain ⟨hx, hb, hr, hml, hts, hown, hlocks, hA, hG⟩ := id K
  intro n
  induction n with
  | zero =>
    intro v2 v3 H locs ls hP hD hS hl h
    have h : none = some z := h
    cases h
  | succ n ih =>
    intro v2 v3 H locs ls hP hD hS hl h
    have h : gbX11_isFit_4 F σxx v1 (gX11_isFit_4 F σxx v1 n) v2 v3 = some z := h
    unfold gbX11_isFit_4 at h
    refine lv_iload_n hx hb dX11_isFit_4 rfl (lv_at hl 3 rfl) ?_
    refine lv_aload_n hx hb dX11_isFit_5 rfl (lv_at hl 0 rfl) ?_
    refine va_get (D := G.1) (cl := vwCl) (tys := tysG G) (ci := 11) (v := .int (σxx.1 23)) (C := RX11) (T := TX11) (N := 37) hx hb hts iX11 hown hG.1 hP 0 rfl rfl 23 (Nat.le_of_ble_eq_true rfl) (hts _ tw_4_120) (fun _ h9 => h9) rfl dX11_isFit_6 ?_
    refine lv_icmp_ge (tgt := 48) hx hb dX11_isFit_9 (by decide) (fun c1 => ?_) (fun c1 => ?_)
    · have h := if_t c1 h
      cases h
      exact kk _ _ _ hP hD hS (lv_sub hl [0, 1, 2, 3] rfl)
    · have h := if_f c1 h
      refine lv_iload_n hx hb dX11_isFit_12 rfl (lv_at hl 2 rfl) ?_
      refine lv_if_eq (tgt := 48) hx hb dX11_isFit_13 (by decide) (fun c2 => ?_) (fun c2 => ?_)
      · have h := if_t c2 h
        cases h
        exact kk _ _ _ hP hD hS (lv_sub hl [0, 1, 2, 3] rfl)
      · have h := if_f c2 h
        refine lv_aload_n hx hb dX11_isFit_16 rfl (lv_at hl 0 rfl) ?_
        refine lv_iload_n hx hb dX11_isFit_17 rfl (lv_at hl 1 rfl) ?_
        refine lv_aload_n hx hb dX11_isFit_18 rfl (lv_at hl 0 rfl) ?_
        refine va_get (D := G.1) (cl := vwCl) (tys := tysG G) (ci := 11) (v := .ref (xx 25)) (C := RX11) (T := TX11) (N := 37) hx hb hts iX11 hown hG.1 hP 0 rfl rfl 24 (Nat.le_of_ble_eq_true rfl) (hts _ tw_4_121) (fun _ h9 => h9) rfl dX11_isFit_19 ?_
        refine lv_iload_n hx hb dX11_isFit_22 rfl (lv_at hl 3 rfl) ?_
        obtain ⟨ck3, h⟩ := ck h
        refine va_iald hx hb hG.1 hP 12 0 rfl rfl ck3 dX11_isFit_23 ?_
        obtain ⟨r4, hc5, h⟩ := bd_ex h
        refine sl_V (q0 := 0) (ci := 11) (C := RX11) K (mX11_rowDark l G F xx σxx v1 (σxx.2.1 24 v3.toNatClampNeg) hc5) tw_5_177 tw_1_12 tw_5_176 tw_0_20 tw_5_174 cdX11_rowDark ⟨Nat.le_of_ble_eq_true rfl, Nat.le_of_ble_eq_true rfl⟩ hP hD hS [0] rfl rfl rfl rfl rfl rfl rfl hl.1 (Nat.le_of_ble_eq_true rfl) ⟨Nat.zero_le _, Nat.zero_le _⟩ dX11_isFit_24 (fun H locs hP hD hS => ?_)
        have hP : va_P G.1 vwCl (List.flatten [wX G xx σxx]) H := hP
        have hD : va_D A (List.flatten [wX G xx σxx]) := hD
        refine lv_aload_n hx hb dX11_isFit_27 rfl (lv_at hl 0 rfl) ?_
        refine va_get (D := G.1) (cl := vwCl) (tys := tysG G) (ci := 11) (v := .ref (xx 26)) (C := RX11) (T := TX11) (N := 37) hx hb hts iX11 hown hG.1 hP 0 rfl rfl 25 (Nat.le_of_ble_eq_true rfl) (hts _ tw_4_122) (fun _ h9 => h9) rfl dX11_isFit_28 ?_
        refine lv_iload_n hx hb dX11_isFit_31 rfl (lv_at hl 3 rfl) ?_
        refine va_iald hx hb hG.1 hP 13 0 rfl rfl ck3 dX11_isFit_32 ?_
        refine lv_icmp_ne (tgt := 40) hx hb dX11_isFit_33 (by decide) (fun c6 => ?_) (fun c6 => ?_)
        · have h := if_f c6 h
          refine lv_iconst (v := 0) hx hb dX11_isFit_40 li_0 ?_
          refine lv_istore_n (lv' := [(2, .int (0 : Int32)), (0, .ref (xx 0)), (1, .int v1), (3, .int v3)]) hx hb dX11_isFit_41 rfl hl (Nat.le_of_ble_eq_true rfl) rfl (fun ls hl => ?_)
          refine lv_iinc (v := v3 + 1) (lv' := [(3, .int (v3 + 1)), (2, .int (0 : Int32)), (0, .ref (xx 0)), (1, .int v1)]) hx hb dX11_isFit_42 hl (k := 3) rfl (by rw [li_1]) (Nat.le_of_ble_eq_true rfl) rfl (fun ls hl => ?_)
          refine lv_goto (tgt := 4) hx hb dX11_isFit_45 (by decide) ?_
          exact ih (0 : Int32) (v3 + 1) _ _ _ hP hD hS (lv_sub hl [2, 3, 1, 0] rfl) h
        · have h := if_t c6 h
          refine lv_iconst (v := 1) hx hb dX11_isFit_36 li_1 ?_
          refine lv_goto (tgt := 41) hx hb dX11_isFit_37 (by decide) ?_
          refine lv_istore_n (lv' := [(2, .int (1 : Int32)), (0, .ref (xx 0)), (1, .int v1), (3, .int v3)]) hx hb dX11_isFit_41 rfl hl (Nat.le_of_ble_eq_true rfl) rfl (fun ls hl => ?_)
          refine lv_iinc (v := v3 + 1) (lv' := [(3, .int (v3 + 1)), (2, .int (1 : Int32)), (0, .ref (xx 0)), (1, .int v1)]) hx hb dX11_isFit_42 hl (k := 3) rfl (by rw [li_1]) (Nat.le_of_ble_eq_true rfl) rfl (fun ls hl => ?_)
          refine lv_goto (tgt := 4) hx hb dX11_isFit_45 (by decide) ?_
          exact ih (1 : Int32) (v3 + 1) _ _ _ hP hD hS (lv_sub hl [2, 3, 1, 0] rfl) h
def fX11_isFit (F : Nat) (σxx : ST) (x1 : Int32) : Option (Int32) :=
  (gX11_isFit_4 F σxx x1 F (1 : Int32) (0 : Int32)).bind fun z7 =>
    if ¬ (z7.1 = 0 ∨ z7.1 = 1) then none else
    some z7.1
theorem cdX11_isFit : CallD yX11_isFit 1 := by decide +kernel
set_option maxHeartbeats 4000000 in
set_option maxRecDepth 100000 in
theorem mX11_isFit (l : Launch) (G : GP) (F : Nat) (xx : Nat → Nat) (σxx : ST) (x1 : Int32) {r : Int32} (h : fX11_isFit F σxx x1 = some r) : CC l G yX11_isFit cX11_isFit 4 (some .boolean) 2 [.ref (xx 0), .int x1] (List.flatten [wX G xx σxx]) (List.flatten [wX G xx σxx]) (some (.int r)) := by
  refine CC.of (by decide) (Nat.le_of_ble_eq_true rfl) ?_
  intro p e s m below meth c A K hP hD hS ls hl
  obtain ⟨hx, hb, hr, hml, hts, hown, hlocks, hA, hG⟩ := id K
  have hl : lv_has ls 4 [(0, .ref (xx 0)), (1, .int x1)] := hl
  unfold fX11_isFit at h
  refine lv_iconst (v := 1) hx hb dX11_isFit_0 li_1 ?_
  refine lv_istore_n (lv' := [(2, .int (1 : Int32)), (0, .ref (xx 0)), (1, .int x1)]) hx hb dX11_isFit_1 rfl hl (Nat.le_of_ble_eq_true rfl) rfl (fun ls hl => ?_)
  refine lv_iconst (v := 0) hx hb dX11_isFit_2 li_0 ?_
  refine lv_istore_n (lv' := [(3, .int (0 : Int32)), (2, .int (1 : Int32)), (0, .ref (xx 0)), (1, .int x1)]) hx hb dX11_isFit_3 rfl hl (Nat.le_of_ble_eq_true rfl) rfl (fun ls hl => ?_)
  obtain ⟨z7, hz8, h⟩ := bd_ex h
  refine kX11_isFit_4 K F xx σxx x1 (fun H locs ls hP hD hS hl => ?_) F (1 : Int32) (0 : Int32) _ _ _ hP hD hS (lv_sub hl [2, 3, 1, 0] rfl) hz8
  refine lv_iload_n hx hb dX11_isFit_48 rfl (lv_at hl 2 rfl) ?_
  obtain ⟨ck9, h⟩ := ck h
  cases h
  exact rt_z K (Classical.not_not.mp ck9) hP hD hS dX11_isFit_49
def gbX11_layFit_10 (F : Nat) (σxx : ST) (v1 : Int32) (rc : Int32 → Int32 → Int32 → Int32 → Option (Int32 × Int32 × Int32 × Int32)) (v2 : Int32) (v3 : Int32) (v4 : Int32) (v5 : Int32) : Option (Int32 × Int32 × Int32 × Int32) :=
  if (10 : Int32) ≤ v5 then
    some (v2, v3, v4, v5)
  else
    if (v4 - v4 / (3 : Int32) * (3 : Int32)) ≤ 0 then
      if (v4 - v4 / (3 : Int32) * (3 : Int32)) ≤ 0 then
        rc (v2 + (0 : Int32)) (v3 ||| (0 : Int32)) (v4 / (3 : Int32)) (v5 + 1)
      else
        rc (v2 + (0 : Int32)) (v3 ||| ((1 : Int32) <<< (v5 &&& 31))) (v4 / (3 : Int32)) (v5 + 1)
    else
      if (v4 - v4 / (3 : Int32) * (3 : Int32)) ≤ 0 then
        rc (v2 + (1 : Int32)) (v3 ||| (0 : Int32)) (v4 / (3 : Int32)) (v5 + 1)
      else
        rc (v2 + (1 : Int32)) (v3 ||| ((1 : Int32) <<< (v5 &&& 31))) (v4 / (3 : Int32)) (v5 + 1)
def gX11_layFit_10 (F : Nat) (σxx : ST) (v1 : Int32) : Nat → Int32 → Int32 → Int32 → Int32 → Option (Int32 × Int32 × Int32 × Int32)
  | 0, _, _, _, _ => none
  | n + 1, v2, v3, v4, v5 => gbX11_layFit_10 F σxx v1 (gX11_layFit_10 F σxx v1 n) v2 v3 v4 v5
set_option maxHeartbeats 4000000 in
set_option maxRecDepth 100000 in
theorem kX11_layFit_10 {p : Program} {l : Launch} {e : Env} {s : State} {m : MethodId} {args : Array Value} {below : List Frame} {meth : Method} {c : Code} {A : Nat → Prop} {Q : State → Prop} {G : GP} (K : Cx p s m meth c G cX11_layFit RX11 6 none args A) (F : Nat) (xx : Nat → Nat) (σxx : ST) (v1 : Int32) {z : Int32 × Int32 × Int32 × Int32} (kk : ∀ (H : Heap) (locs : List Loc) (ls : Array Slot), va_P G.1 vwCl (List.flatten [wX G xx σxx]) H → va_D A (List.flatten [wX G xx σxx]) → va_S A s.heap H locs → lv_has ls 6 [(0, .ref (xx 0)), (1, .int v1), (2, .int z.1), (3, .int z.2.1), (4, .int z.2.2.1), (5, .int z.2.2.2)] → W p l e (RM 1) s m args below meth c H locs 0 0 Q (F0 m 62 ls [])) :
    ∀ (n : Nat) (v2 : Int32) (v3 : Int32) (v4 : Int32) (v5 : Int32) (H : Heap) (locs : List Loc) (ls : Array Slot), va_P G.1 vwCl (List.flatten [wX G xx σxx]) H → va_D A (List.flatten [wX G xx σxx]) → va_S A s.heap H locs → lv_has ls 6 [(0, .ref (xx 0)), (1, .int v1), (2, .int v2), (3, .int v3), (4, .int v4), (5, .int v5)] → gX11_layFit_10 F σxx v1 n v2 v3 v4 v5 = some z → W p l e (RM 1) s m args below meth c H locs 0 0 Q (F0 m 10 ls []) := by
  obtain ⟨hx, hb, hr, hml, hts, hown, hlocks, hA, hG⟩ := id K
  intro n
  induction n with
  | zero =>
    intro v2 v3 v4 v5 H locs ls hP hD hS hl h
    have h : none = some z := h
    cases h
  | succ n ih =>
    intro v2 v3 v4 v5 H locs ls hP hD hS hl h
    have h : gbX11_layFit_10 F σxx v1 (gX11_layFit_10 F σxx v1 n) v2 v3 v4 v5 = some z := h
    unfold gbX11_layFit_10 at h
    refine lv_iload hx hb dX11_layFit_10 (lv_at hl 5 rfl) ?_
    refine lv_bipush (v := 10) hx hb dX11_layFit_12 lb_10 ?_
    refine lv_icmp_ge (tgt := 62) hx hb dX11_layFit_14 (by decide) (fun c1 => ?_) (fun c1 => ?_)
    · have h := if_t c1 h
      cases h
      exact kk _ _ _ hP hD hS (lv_sub hl [0, 1, 2, 3, 4, 5] rfl)
    · have h := if_f c1 h
      refine lv_iload_n hx hb dX11_layFit_17 rfl (lv_at hl 2 rfl) ?_
      refine lv_iload hx hb dX11_layFit_18 (lv_at hl 4 rfl) ?_
      refine lv_iconst (v := 3) hx hb dX11_layFit_20 li_3 ?_
      refine lv_irem hx hb dX11_layFit_21 (by decide) ?_
      refine lv_if_le (tgt := 29) hx hb dX11_layFit_22 (by decide) (fun c2 => ?_) (fun c2 => ?_)
      · have h := if_t c2 h
        refine lv_iconst (v := 0) hx hb dX11_layFit_29 li_0 ?_
        refine lv_iadd hx hb dX11_layFit_30 ?_
        refine lv_istore_n (lv' := [(2, .int (v2 + (0 : Int32))), (0, .ref (xx 0)), (1, .int v1), (3, .int v3), (4, .int v4), (5, .int v5)]) hx hb dX11_layFit_31 rfl hl (Nat.le_of_ble_eq_true rfl) rfl (fun ls hl => ?_)
        refine lv_iload_n hx hb dX11_layFit_32 rfl (lv_at hl 3 rfl) ?_
        refine lv_iload hx hb dX11_layFit_33 (lv_at hl 4 rfl) ?_
        refine lv_iconst (v := 3) hx hb dX11_layFit_35 li_3 ?_
        refine lv_irem hx hb dX11_layFit_36 (by decide) ?_
        refine lv_if_le (tgt := 47) hx hb dX11_layFit_37 (by decide) (fun c3 => ?_) (fun c3 => ?_)
        · have h := if_t c3 h
          refine lv_iconst (v := 0) hx hb dX11_layFit_47 li_0 ?_
          refine lv_ior hx hb dX11_layFit_48 ?_
          refine lv_istore_n (lv' := [(3, .int (v3 ||| (0 : Int32))), (2, .int (v2 + (0 : Int32))), (0, .ref (xx 0)), (1, .int v1), (4, .int v4), (5, .int v5)]) hx hb dX11_layFit_49 rfl hl (Nat.le_of_ble_eq_true rfl) rfl (fun ls hl => ?_)
          refine lv_iload hx hb dX11_layFit_50 (lv_at hl 4 rfl) ?_
          refine lv_iconst (v := 3) hx hb dX11_layFit_52 li_3 ?_
          refine lv_idiv hx hb dX11_layFit_53 (by decide) ?_
          refine lv_istore (lv' := [(4, .int (v4 / (3 : Int32))), (3, .int (v3 ||| (0 : Int32))), (2, .int (v2 + (0 : Int32))), (0, .ref (xx 0)), (1, .int v1), (5, .int v5)]) hx hb dX11_layFit_54 hl (Nat.le_of_ble_eq_true rfl) rfl (fun ls hl => ?_)
          refine lv_iinc (v := v5 + 1) (lv' := [(5, .int (v5 + 1)), (4, .int (v4 / (3 : Int32))), (3, .int (v3 ||| (0 : Int32))), (2, .int (v2 + (0 : Int32))), (0, .ref (xx 0)), (1, .int v1)]) hx hb dX11_layFit_56 hl (k := 5) rfl (by rw [li_1]) (Nat.le_of_ble_eq_true rfl) rfl (fun ls hl => ?_)
          refine lv_goto (tgt := 10) hx hb dX11_layFit_59 (by decide) ?_
          exact ih (v2 + (0 : Int32)) (v3 ||| (0 : Int32)) (v4 / (3 : Int32)) (v5 + 1) _ _ _ hP hD hS (lv_sub hl [4, 5, 3, 2, 1, 0] rfl) h
        · have h := if_f c3 h
          refine lv_iconst (v := 1) hx hb dX11_layFit_40 li_1 ?_
          refine lv_iload hx hb dX11_layFit_41 (lv_at hl 5 rfl) ?_
          refine lv_ishl hx hb dX11_layFit_43 ?_
          refine lv_goto (tgt := 48) hx hb dX11_layFit_44 (by decide) ?_
          refine lv_ior hx hb dX11_layFit_48 ?_
          refine lv_istore_n (lv' := [(3, .int (v3 ||| ((1 : Int32) <<< (v5 &&& 31)))), (2, .int (v2 + (0 : Int32))), (0, .ref (xx 0)), (1, .int v1), (4, .int v4), (5, .int v5)]) hx hb dX11_layFit_49 rfl hl (Nat.le_of_ble_eq_true rfl) rfl (fun ls hl => ?_)
          refine lv_iload hx hb dX11_layFit_50 (lv_at hl 4 rfl) ?_
          refine lv_iconst (v := 3) hx hb dX11_layFit_52 li_3 ?_
          refine lv_idiv hx hb dX11_layFit_53 (by decide) ?_
          refine lv_istore (lv' := [(4, .int (v4 / (3 : Int32))), (3, .int (v3 ||| ((1 : Int32) <<< (v5 &&& 31)))), (2, .int (v2 + (0 : Int32))), (0, .ref (xx 0)), (1, .int v1), (5, .int v5)]) hx hb dX11_layFit_54 hl (Nat.le_of_ble_eq_true rfl) rfl (fun ls hl => ?_)
          refine lv_iinc (v := v5 + 1) (lv' := [(5, .int (v5 + 1)), (4, .int (v4 / (3 : Int32))), (3, .int (v3 ||| ((1 : Int32) <<< (v5 &&& 31)))), (2, .int (v2 + (0 : Int32))), (0, .ref (xx 0)), (1, .int v1)]) hx hb dX11_layFit_56 hl (k := 5) rfl (by rw [li_1]) (Nat.le_of_ble_eq_true rfl) rfl (fun ls hl => ?_)
          refine lv_goto (tgt := 10) hx hb dX11_layFit_59 (by decide) ?_
          exact ih (v2 + (0 : Int32)) (v3 ||| ((1 : Int32) <<< (v5 &&& 31))) (v4 / (3 : Int32)) (v5 + 1) _ _ _ hP hD hS (lv_sub hl [4, 5, 3, 2, 1, 0] rfl) h
      · have h := if_f c2 h
        refine lv_iconst (v := 1) hx hb dX11_layFit_25 li_1 ?_
        refine lv_goto (tgt := 30) hx hb dX11_layFit_26 (by decide) ?_
        refine lv_iadd hx hb dX11_layFit_30 ?_
        refine lv_istore_n (lv' := [(2, .int (v2 + (1 : Int32))), (0, .ref (xx 0)), (1, .int v1), (3, .int v3), (4, .int v4), (5, .int v5)]) hx hb dX11_layFit_31 rfl hl (Nat.le_of_ble_eq_true rfl) rfl (fun ls hl => ?_)
        refine lv_iload_n hx hb dX11_layFit_32 rfl (lv_at hl 3 rfl) ?_
        refine lv_iload hx hb dX11_layFit_33 (lv_at hl 4 rfl) ?_
        refine lv_iconst (v := 3) hx hb dX11_layFit_35 li_3 ?_
        refine lv_irem hx hb dX11_layFit_36 (by decide) ?_
        refine lv_if_le (tgt := 47) hx hb dX11_layFit_37 (by decide) (fun c4 => ?_) (fun c4 => ?_)
        · have h := if_t c4 h
          refine lv_iconst (v := 0) hx hb dX11_layFit_47 li_0 ?_
          refine lv_ior hx hb dX11_layFit_48 ?_
          refine lv_istore_n (lv' := [(3, .int (v3 ||| (0 : Int32))), (2, .int (v2 + (1 : Int32))), (0, .ref (xx 0)), (1, .int v1), (4, .int v4), (5, .int v5)]) hx hb dX11_layFit_49 rfl hl (Nat.le_of_ble_eq_true rfl) rfl (fun ls hl => ?_)
          refine lv_iload hx hb dX11_layFit_50 (lv_at hl 4 rfl) ?_
          refine lv_iconst (v := 3) hx hb dX11_layFit_52 li_3 ?_
          refine lv_idiv hx hb dX11_layFit_53 (by decide) ?_
          refine lv_istore (lv' := [(4, .int (v4 / (3 : Int32))), (3, .int (v3 ||| (0 : Int32))), (2, .int (v2 + (1 : Int32))), (0, .ref (xx 0)), (1, .int v1), (5, .int v5)]) hx hb dX11_layFit_54 hl (Nat.le_of_ble_eq_true rfl) rfl (fun ls hl => ?_)
          refine lv_iinc (v := v5 + 1) (lv' := [(5, .int (v5 + 1)), (4, .int (v4 / (3 : Int32))), (3, .int (v3 ||| (0 : Int32))), (2, .int (v2 + (1 : Int32))), (0, .ref (xx 0)), (1, .int v1)]) hx hb dX11_layFit_56 hl (k := 5) rfl (by rw [li_1]) (Nat.le_of_ble_eq_true rfl) rfl (fun ls hl => ?_)
          refine lv_goto (tgt := 10) hx hb dX11_layFit_59 (by decide) ?_
          exact ih (v2 + (1 : Int32)) (v3 ||| (0 : Int32)) (v4 / (3 : Int32)) (v5 + 1) _ _ _ hP hD hS (lv_sub hl [4, 5, 3, 2, 1, 0] rfl) h
        · have h := if_f c4 h
          refine lv_iconst (v := 1) hx hb dX11_layFit_40 li_1 ?_
          refine lv_iload hx hb dX11_layFit_41 (lv_at hl 5 rfl) ?_
          refine lv_ishl hx hb dX11_layFit_43 ?_
          refine lv_goto (tgt := 48) hx hb dX11_layFit_44 (by decide) ?_
          refine lv_ior hx hb dX11_layFit_48 ?_
          refine lv_istore_n (lv' := [(3, .int (v3 ||| ((1 : Int32) <<< (v5 &&& 31)))), (2, .int (v2 + (1 : Int32))), (0, .ref (xx 0)), (1, .int v1), (4, .int v4), (5, .int v5)]) hx hb dX11_layFit_49 rfl hl (Nat.le_of_ble_eq_true rfl) rfl (fun ls hl => ?_)
          refine lv_iload hx hb dX11_layFit_50 (lv_at hl 4 rfl) ?_
          refine lv_iconst (v := 3) hx hb dX11_layFit_52 li_3 ?_
          refine lv_idiv hx hb dX11_layFit_53 (by decide) ?_
          refine lv_istore (lv' := [(4, .int (v4 / (3 : Int32))), (3, .int (v3 ||| ((1 : Int32) <<< (v5 &&& 31)))), (2, .int (v2 + (1 : Int32))), (0, .ref (xx 0)), (1, .int v1), (5, .int v5)]) hx hb dX11_layFit_54 hl (Nat.le_of_ble_eq_true rfl) rfl (fun ls hl => ?_)
          refine lv_iinc (v := v5 + 1) (lv' := [(5, .int (v5 + 1)), (4, .int (v4 / (3 : Int32))), (3, .int (v3 ||| ((1 : Int32) <<< (v5 &&& 31)))), (2, .int (v2 + (1 : Int32))), (0, .ref (xx 0)), (1, .int v1)]) hx hb dX11_layFit_56 hl (k := 5) rfl (by rw [li_1]) (Nat.le_of_ble_eq_true rfl) rfl (fun ls hl => ?_)
          refine lv_goto (tgt := 10) hx hb dX11_layFit_59 (by decide) ?_
          exact ih (v2 + (1 : Int32)) (v3 ||| ((1 : Int32) <<< (v5 &&& 31))) (v4 / (3 : Int32)) (v5 + 1) _ _ _ hP hD hS (lv_sub hl [4, 5, 3, 2, 1, 0] rfl) h
def fX11_layFit (F : Nat) (σxx : ST) (x1 : Int32) : Option (ST) :=
  (gX11_layFit_10 F σxx x1 F (0 : Int32) (0 : Int32) x1 (0 : Int32)).bind fun z5 =>
    if (σxx.1 28) ≤ z5.1 then
      nm (sI σxx 28 (σxx.1 28)) fun (s8 : ST) =>
      if z5.1 ≤ (s8.1 29) then
        nm (sI s8 29 (s8.1 29)) fun (s11 : ST) =>
        nm (sI s11 30 ((s11.1 30) &&& z5.2.1)) fun (s13 : ST) =>
        some s13
      else
        nm (sI s8 29 z5.1) fun (s15 : ST) =>
        nm (sI s15 30 ((s15.1 30) &&& z5.2.1)) fun (s17 : ST) =>
        some s17
    else
      nm (sI σxx 28 z5.1) fun (s19 : ST) =>
      if z5.1 ≤ (s19.1 29) then
        nm (sI s19 29 (s19.1 29)) fun (s22 : ST) =>
        nm (sI s22 30 ((s22.1 30) &&& z5.2.1)) fun (s24 : ST) =>
        some s24
      else
        nm (sI s19 29 z5.1) fun (s26 : ST) =>
        nm (sI s26 30 ((s26.1 30) &&& z5.2.1)) fun (s28 : ST) =>
        some s28
theorem cdX11_layFit : CallD yX11_layFit 1 := by decide +kernel
set_option maxHeartbeats 4000000 in
set_option maxRecDepth 100000 in
theorem mX11_layFit (l : Launch) (G : GP) (F : Nat) (xx : Nat → Nat) (σxx : ST) (x1 : Int32) {r : ST} (h : fX11_layFit F σxx x1 = some r) : CC l G yX11_layFit cX11_layFit 6 none 1 [.ref (xx 0), .int x1] (List.flatten [wX G xx σxx]) (List.flatten [wX G xx r]) none := by
  refine CC.of (by decide) (Nat.le_of_ble_eq_true rfl) ?_
  intro p e s m below meth c A K hP hD hS ls hl
  obtain ⟨hx, hb, hr, hml, hts, hown, hlocks, hA, hG⟩ := id K
  have hl : lv_has ls 6 [(0, .ref (xx 0)), (1, .int x1)] := hl
  unfold fX11_layFit at h
  refine lv_iconst (v := 0) hx hb dX11_layFit_0 li_0 ?_
  refine lv_istore_n (lv' := [(2, .int (0 : Int32)), (0, .ref (xx 0)), (1, .int x1)]) hx hb dX11_layFit_1 rfl hl (Nat.le_of_ble_eq_true rfl) rfl (fun ls hl => ?_)
  refine lv_iconst (v := 0) hx hb dX11_layFit_2 li_0 ?_
  refine lv_istore_n (lv' := [(3, .int (0 : Int32)), (2, .int (0 : Int32)), (0, .ref (xx 0)), (1, .int x1)]) hx hb dX11_layFit_3 rfl hl (Nat.le_of_ble_eq_true rfl) rfl (fun ls hl => ?_)
  refine lv_iload_n hx hb dX11_layFit_4 rfl (lv_at hl 3 rfl) ?_
  refine lv_istore (lv' := [(4, .int x1), (3, .int (0 : Int32)), (2, .int (0 : Int32)), (0, .ref (xx 0)), (1, .int x1)]) hx hb dX11_layFit_5 hl (Nat.le_of_ble_eq_true rfl) rfl (fun ls hl => ?_)
  refine lv_iconst (v := 0) hx hb dX11_layFit_7 li_0 ?_
  refine lv_istore (lv' := [(5, .int (0 : Int32)), (4, .int x1), (3, .int (0 : Int32)), (2, .int (0 : Int32)), (0, .ref (xx 0)), (1, .int x1)]) hx hb dX11_layFit_8 hl (Nat.le_of_ble_eq_true rfl) rfl (fun ls hl => ?_)
  obtain ⟨z5, hz6, h⟩ := bd_ex h
  refine kX11_layFit_10 K F xx σxx x1 (fun H locs ls hP hD hS hl => ?_) F (0 : Int32) (0 : Int32) x1 (0 : Int32) _ _ _ hP hD hS (lv_sub hl [4, 5, 3, 2, 1, 0] rfl) hz6
  refine lv_aload_n hx hb dX11_layFit_62 rfl (lv_at hl 0 rfl) ?_
  refine lv_iload_n hx hb dX11_layFit_63 rfl (lv_at hl 2 rfl) ?_
  refine lv_aload_n hx hb dX11_layFit_64 rfl (lv_at hl 0 rfl) ?_
  refine va_get (D := G.1) (cl := vwCl) (tys := tysG G) (ci := 11) (v := .int (σxx.1 28)) (C := RX11) (T := TX11) (N := 37) hx hb hts iX11 hown hG.1 hP 0 rfl rfl 28 (Nat.le_of_ble_eq_true rfl) (hts _ tw_4_125) (fun _ h9 => h9) rfl dX11_layFit_65 ?_
  refine lv_icmp_ge (tgt := 75) hx hb dX11_layFit_68 (by decide) (fun c7 => ?_) (fun c7 => ?_)
  · have h := if_t c7 h
    refine lv_aload_n hx hb dX11_layFit_75 rfl (lv_at hl 0 rfl) ?_
    refine va_get (D := G.1) (cl := vwCl) (tys := tysG G) (ci := 11) (v := .int (σxx.1 28)) (C := RX11) (T := TX11) (N := 37) hx hb hts iX11 hown hG.1 hP 0 rfl rfl 28 (Nat.le_of_ble_eq_true rfl) (hts _ tw_4_125) (fun _ h9 => h9) rfl dX11_layFit_76 ?_
    obtain ⟨s8, e9, h⟩ := nm_ex h
    refine va_put (D := G.1) (cl := vwCl) (tys := tysG G) (ci := 11) (v := .int (σxx.1 28)) (ty := .int) (C := RX11) (T := TX11) (N := 37) hx hb hts iX11 tyX11 tyX11_ok nmX11 hown hG.1 hP hD hS 0 rfl rfl 28 (Nat.le_of_ble_eq_true rfl) (hts _ tw_4_125) (fun _ h9 => h9) rfl (by decide +kernel) rfl rfl (Nat.le_of_ble_eq_true rfl) dX11_layFit_79 (fun H locs hP hD hS => ?_)
    have hP : va_P G.1 vwCl (List.flatten [wX G xx s8]) H := by rw [e9]; exact hP
    have hD : va_D A (List.flatten [wX G xx s8]) := by rw [e9]; exact hD
    refine lv_aload_n hx hb dX11_layFit_82 rfl (lv_at hl 0 rfl) ?_
    refine lv_iload_n hx hb dX11_layFit_83 rfl (lv_at hl 2 rfl) ?_
    refine lv_aload_n hx hb dX11_layFit_84 rfl (lv_at hl 0 rfl) ?_
    refine va_get (D := G.1) (cl := vwCl) (tys := tysG G) (ci := 11) (v := .int (s8.1 29)) (C := RX11) (T := TX11) (N := 37) hx hb hts iX11 hown hG.1 hP 0 rfl rfl 29 (Nat.le_of_ble_eq_true rfl) (hts _ tw_4_126) (fun _ h9 => h9) rfl dX11_layFit_85 ?_
    refine lv_icmp_le (tgt := 95) hx hb dX11_layFit_88 (by decide) (fun c10 => ?_) (fun c10 => ?_)
    · have h := if_t c10 h
      refine lv_aload_n hx hb dX11_layFit_95 rfl (lv_at hl 0 rfl) ?_
      refine va_get (D := G.1) (cl := vwCl) (tys := tysG G) (ci := 11) (v := .int (s8.1 29)) (C := RX11) (T := TX11) (N := 37) hx hb hts iX11 hown hG.1 hP 0 rfl rfl 29 (Nat.le_of_ble_eq_true rfl) (hts _ tw_4_126) (fun _ h9 => h9) rfl dX11_layFit_96 ?_
      obtain ⟨s11, e12, h⟩ := nm_ex h
      refine va_put (D := G.1) (cl := vwCl) (tys := tysG G) (ci := 11) (v := .int (s8.1 29)) (ty := .int) (C := RX11) (T := TX11) (N := 37) hx hb hts iX11 tyX11 tyX11_ok nmX11 hown hG.1 hP hD hS 0 rfl rfl 29 (Nat.le_of_ble_eq_true rfl) (hts _ tw_4_126) (fun _ h9 => h9) rfl (by decide +kernel) rfl rfl (Nat.le_of_ble_eq_true rfl) dX11_layFit_99 (fun H locs hP hD hS => ?_)
      have hP : va_P G.1 vwCl (List.flatten [wX G xx s11]) H := by rw [e12]; exact hP
      have hD : va_D A (List.flatten [wX G xx s11]) := by rw [e12]; exact hD
      refine lv_aload_n hx hb dX11_layFit_102 rfl (lv_at hl 0 rfl) ?_
      refine lv_dup hx hb dX11_layFit_103 rfl ?_
      refine va_get (D := G.1) (cl := vwCl) (tys := tysG G) (ci := 11) (v := .int (s11.1 30)) (C := RX11) (T := TX11) (N := 37) hx hb hts iX11 hown hG.1 hP 0 rfl rfl 30 (Nat.le_of_ble_eq_true rfl) (hts _ tw_4_127) (fun _ h9 => h9) rfl dX11_layFit_104 ?_
      refine lv_iload_n hx hb dX11_layFit_107 rfl (lv_at hl 3 rfl) ?_
      refine lv_iand hx hb dX11_layFit_108 ?_
      obtain ⟨s13, e14, h⟩ := nm_ex h
      refine va_put (D := G.1) (cl := vwCl) (tys := tysG G) (ci := 11) (v := .int ((s11.1 30) &&& z5.2.1)) (ty := .int) (C := RX11) (T := TX11) (N := 37) hx hb hts iX11 tyX11 tyX11_ok nmX11 hown hG.1 hP hD hS 0 rfl rfl 30 (Nat.le_of_ble_eq_true rfl) (hts _ tw_4_127) (fun _ h9 => h9) rfl (by decide +kernel) rfl rfl (Nat.le_of_ble_eq_true rfl) dX11_layFit_109 (fun H locs hP hD hS => ?_)
      have hP : va_P G.1 vwCl (List.flatten [wX G xx s13]) H := by rw [e14]; exact hP
      have hD : va_D A (List.flatten [wX G xx s13]) := by rw [e14]; exact hD
      cases h
      exact rt_v K hP hD hS dX11_layFit_112
    · have h := if_f c10 h
      refine lv_iload_n hx hb dX11_layFit_91 rfl (lv_at hl 2 rfl) ?_
      refine lv_goto (tgt := 99) hx hb dX11_layFit_92 (by decide) ?_
      obtain ⟨s15, e16, h⟩ := nm_ex h
      refine va_put (D := G.1) (cl := vwCl) (tys := tysG G) (ci := 11) (v := .int z5.1) (ty := .int) (C := RX11) (T := TX11) (N := 37) hx hb hts iX11 tyX11 tyX11_ok nmX11 hown hG.1 hP hD hS 0 rfl rfl 29 (Nat.le_of_ble_eq_true rfl) (hts _ tw_4_126) (fun _ h9 => h9) rfl (by decide +kernel) rfl rfl (Nat.le_of_ble_eq_true rfl) dX11_layFit_99 (fun H locs hP hD hS => ?_)
      have hP : va_P G.1 vwCl (List.flatten [wX G xx s15]) H := by rw [e16]; exact hP
      have hD : va_D A (List.flatten [wX G xx s15]) := by rw [e16]; exact hD
      refine lv_aload_n hx hb dX11_layFit_102 rfl (lv_at hl 0 rfl) ?_
      refine lv_dup hx hb dX11_layFit_103 rfl ?_
      refine va_get (D := G.1) (cl := vwCl) (tys := tysG G) (ci := 11) (v := .int (s15.1 30)) (C := RX11) (T := TX11) (N := 37) hx hb hts iX11 hown hG.1 hP 0 rfl rfl 30 (Nat.le_of_ble_eq_true rfl) (hts _ tw_4_127) (fun _ h9 => h9) rfl dX11_layFit_104 ?_
      refine lv_iload_n hx hb dX11_layFit_107 rfl (lv_at hl 3 rfl) ?_
      refine lv_iand hx hb dX11_layFit_108 ?_
      obtain ⟨s17, e18, h⟩ := nm_ex h
      refine va_put (D := G.1) (cl := vwCl) (tys := tysG G) (ci := 11) (v := .int ((s15.1 30) &&& z5.2.1)) (ty := .int) (C := RX11) (T := TX11) (N := 37) hx hb hts iX11 tyX11 tyX11_ok nmX11 hown hG.1 hP hD hS 0 rfl rfl 30 (Nat.le_of_ble_eq_true rfl) (hts _ tw_4_127) (fun _ h9 => h9) rfl (by decide +kernel) rfl rfl (Nat.le_of_ble_eq_true rfl) dX11_layFit_109 (fun H locs hP hD hS => ?_)
      have hP : va_P G.1 vwCl (List.flatten [wX G xx s17]) H := by rw [e18]; exact hP
      have hD : va_D A (List.flatten [wX G xx s17]) := by rw [e18]; exact hD
      cases h
      exact rt_v K hP hD hS dX11_layFit_112
  · have h := if_f c7 h
    refine lv_iload_n hx hb dX11_layFit_71 rfl (lv_at hl 2 rfl) ?_
    refine lv_goto (tgt := 79) hx hb dX11_layFit_72 (by decide) ?_
    obtain ⟨s19, e20, h⟩ := nm_ex h
    refine va_put (D := G.1) (cl := vwCl) (tys := tysG G) (ci := 11) (v := .int z5.1) (ty := .int) (C := RX11) (T := TX11) (N := 37) hx hb hts iX11 tyX11 tyX11_ok nmX11 hown hG.1 hP hD hS 0 rfl rfl 28 (Nat.le_of_ble_eq_true rfl) (hts _ tw_4_125) (fun _ h9 => h9) rfl (by decide +kernel) rfl rfl (Nat.le_of_ble_eq_true rfl) dX11_layFit_79 (fun H locs hP hD hS => ?_)
    have hP : va_P G.1 vwCl (List.flatten [wX G xx s19]) H := by rw [e20]; exact hP
    have hD : va_D A (List.flatten [wX G xx s19]) := by rw [e20]; exact hD
    refine lv_aload_n hx hb dX11_layFit_82 rfl (lv_at hl 0 rfl) ?_
    refine lv_iload_n hx hb dX11_layFit_83 rfl (lv_at hl 2 rfl) ?_
    refine lv_aload_n hx hb dX11_layFit_84 rfl (lv_at hl 0 rfl) ?_
    refine va_get (D := G.1) (cl := vwCl) (tys := tysG G) (ci := 11) (v := .int (s19.1 29)) (C := RX11) (T := TX11) (N := 37) hx hb hts iX11 hown hG.1 hP 0 rfl rfl 29 (Nat.le_of_ble_eq_true rfl) (hts _ tw_4_126) (fun _ h9 => h9) rfl dX11_layFit_85 ?_
    refine lv_icmp_le (tgt := 95) hx hb dX11_layFit_88 (by decide) (fun c21 => ?_) (fun c21 => ?_)
    · have h := if_t c21 h
      refine lv_aload_n hx hb dX11_layFit_95 rfl (lv_at hl 0 rfl) ?_
      refine va_get (D := G.1) (cl := vwCl) (tys := tysG G) (ci := 11) (v := .int (s19.1 29)) (C := RX11) (T := TX11) (N := 37) hx hb hts iX11 hown hG.1 hP 0 rfl rfl 29 (Nat.le_of_ble_eq_true rfl) (hts _ tw_4_126) (fun _ h9 => h9) rfl dX11_layFit_96 ?_
      obtain ⟨s22, e23, h⟩ := nm_ex h
      refine va_put (D := G.1) (cl := vwCl) (tys := tysG G) (ci := 11) (v := .int (s19.1 29)) (ty := .int) (C := RX11) (T := TX11) (N := 37) hx hb hts iX11 tyX11 tyX11_ok nmX11 hown hG.1 hP hD hS 0 rfl rfl 29 (Nat.le_of_ble_eq_true rfl) (hts _ tw_4_126) (fun _ h9 => h9) rfl (by decide +kernel) rfl rfl (Nat.le_of_ble_eq_true rfl) dX11_layFit_99 (fun H locs hP hD hS => ?_)
      have hP : va_P G.1 vwCl (List.flatten [wX G xx s22]) H := by rw [e23]; exact hP
      have hD : va_D A (List.flatten [wX G xx s22]) := by rw [e23]; exact hD
      refine lv_aload_n hx hb dX11_layFit_102 rfl (lv_at hl 0 rfl) ?_
      refine lv_dup hx hb dX11_layFit_103 rfl ?_
      refine va_get (D := G.1) (cl := vwCl) (tys := tysG G) (ci := 11) (v := .int (s22.1 30)) (C := RX11) (T := TX11) (N := 37) hx hb hts iX11 hown hG.1 hP 0 rfl rfl 30 (Nat.le_of_ble_eq_true rfl) (hts _ tw_4_127) (fun _ h9 => h9) rfl dX11_layFit_104 ?_
      refine lv_iload_n hx hb dX11_layFit_107 rfl (lv_at hl 3 rfl) ?_
      refine lv_iand hx hb dX11_layFit_108 ?_
      obtain ⟨s24, e25, h⟩ := nm_ex h
      refine va_put (D := G.1) (cl := vwCl) (tys := tysG G) (ci := 11) (v := .int ((s22.1 30) &&& z5.2.1)) (ty := .int) (C := RX11) (T := TX11) (N := 37) hx hb hts iX11 tyX11 tyX11_ok nmX11 hown hG.1 hP hD hS 0 rfl rfl 30 (Nat.le_of_ble_eq_true rfl) (hts _ tw_4_127) (fun _ h9 => h9) rfl (by decide +kernel) rfl rfl (Nat.le_of_ble_eq_true rfl) dX11_layFit_109 (fun H locs hP hD hS => ?_)
      have hP : va_P G.1 vwCl (List.flatten [wX G xx s24]) H := by rw [e25]; exact hP
      have hD : va_D A (List.flatten [wX G xx s24]) := by rw [e25]; exact hD
      cases h
      exact rt_v K hP hD hS dX11_layFit_112
    · have h := if_f c21 h
      refine lv_iload_n hx hb dX11_layFit_91 rfl (lv_at hl 2 rfl) ?_
      refine lv_goto (tgt := 99) hx hb dX11_layFit_92 (by decide) ?_
      obtain ⟨s26, e27, h⟩ := nm_ex h
      refine va_put (D := G.1) (cl := vwCl) (tys := tysG G) (ci := 11) (v := .int z5.1) (ty := .int) (C := RX11) (T := TX11) (N := 37) hx hb hts iX11 tyX11 tyX11_ok nmX11 hown hG.1 hP hD hS 0 rfl rfl 29 (Nat.le_of_ble_eq_true rfl) (hts _ tw_4_126) (fun _ h9 => h9) rfl (by decide +kernel) rfl rfl (Nat.le_of_ble_eq_true rfl) dX11_layFit_99 (fun H locs hP hD hS => ?_)
      have hP : va_P G.1 vwCl (List.flatten [wX G xx s26]) H := by rw [e27]; exact hP
      have hD : va_D A (List.flatten [wX G xx s26]) := by rw [e27]; exact hD
      refine lv_aload_n hx hb dX11_layFit_102 rfl (lv_at hl 0 rfl) ?_
      refine lv_dup hx hb dX11_layFit_103 rfl ?_
      refine va_get (D := G.1) (cl := vwCl) (tys := tysG G) (ci := 11) (v := .int (s26.1 30)) (C := RX11) (T := TX11) (N := 37) hx hb hts iX11 hown hG.1 hP 0 rfl rfl 30 (Nat.le_of_ble_eq_true rfl) (hts _ tw_4_127) (fun _ h9 => h9) rfl dX11_layFit_104 ?_
      refine lv_iload_n hx hb dX11_layFit_107 rfl (lv_at hl 3 rfl) ?_
      refine lv_iand hx hb dX11_layFit_108 ?_
      obtain ⟨s28, e29, h⟩ := nm_ex h
      refine va_put (D := G.1) (cl := vwCl) (tys := tysG G) (ci := 11) (v := .int ((s26.1 30) &&& z5.2.1)) (ty := .int) (C := RX11) (T := TX11) (N := 37) hx hb hts iX11 tyX11 tyX11_ok nmX11 hown hG.1 hP hD hS 0 rfl rfl 30 (Nat.le_of_ble_eq_true rfl) (hts _ tw_4_127) (fun _ h9 => h9) rfl (by decide +kernel) rfl rfl (Nat.le_of_ble_eq_true rfl) dX11_layFit_109 (fun H locs hP hD hS => ?_)
      have hP : va_P G.1 vwCl (List.flatten [wX G xx s28]) H := by rw [e29]; exact hP
      have hD : va_D A (List.flatten [wX G xx s28]) := by rw [e29]; exact hD
      cases h
      exact rt_v K hP hD hS dX11_layFit_112
def gbX11_layFits_2 (F : Nat) (v1 : Int32) (rc : Int32 → ST → Option (Int32 × ST)) (v2 : Int32) (σxx : ST) : Option (Int32 × ST) :=
  if (480 : Int32) ≤ v2 then
    some (v2, σxx)
  else
    if (v2 - v2 / (3 : Int32) * (3 : Int32)) = 0 then
      if v2 < 0 ∨ 480 ≤ v2.toNatClampNeg then none else
      nm (sA σxx 26 v2.toNatClampNeg (0 : Int32)) fun (s15 : ST) =>
      rc (v2 + 1) s15
    else
      if (v2 - v2 / (3 : Int32) * (3 : Int32)) = (1 : Int32) then
        (fX11_reach F (3 : Int32) ((v2 / (3 : Int32)) - (v2 / (3 : Int32)) / (10 : Int32) * (10 : Int32)) (v2 / (30 : Int32))).bind fun r9 =>
        if v2 < 0 ∨ 480 ≤ v2.toNatClampNeg then none else
        nm (sA σxx 26 v2.toNatClampNeg r9) fun (s12 : ST) =>
        rc (v2 + 1) s12
      else
        (fX11_reach F (6 : Int32) ((v2 / (3 : Int32)) - (v2 / (3 : Int32)) / (10 : Int32) * (10 : Int32)) (v2 / (30 : Int32))).bind fun r4 =>
        if v2 < 0 ∨ 480 ≤ v2.toNatClampNeg then none else
        nm (sA σxx 26 v2.toNatClampNeg r4) fun (s7 : ST) =>
        rc (v2 + 1) s7
def gX11_layFits_2 (F : Nat) (v1 : Int32) : Nat → Int32 → ST → Option (Int32 × ST)
  | 0, _, _ => none
  | n + 1, v2, σxx => gbX11_layFits_2 F v1 (gX11_layFits_2 F v1 n) v2 σxx
set_option maxHeartbeats 4000000 in
set_option maxRecDepth 100000 in
theorem kX11_layFits_2 {p : Program} {l : Launch} {e : Env} {s : State} {m : MethodId} {args : Array Value} {below : List Frame} {meth : Method} {c : Code} {A : Nat → Prop} {Q : State → Prop} {G : GP} (K : Cx p s m meth c G cX11_layFits RX11 4 none args A) (F : Nat) (xx : Nat → Nat) (v1 : Int32) {z : Int32 × ST} (kk : ∀ (H : Heap) (locs : List Loc) (ls : Array Slot), va_P G.1 vwCl (List.flatten [wX G xx z.2]) H → va_D A (List.flatten [wX G xx z.2]) → va_S A s.heap H locs → lv_has ls 4 [(0, .ref (xx 0)), (1, .int v1), (2, .int z.1)] → W p l e (RM 4) s m args below meth c H locs 0 0 Q (F0 m 57 ls [])) :
    ∀ (n : Nat) (v2 : Int32) (σxx : ST) (H : Heap) (locs : List Loc) (ls : Array Slot), va_P G.1 vwCl (List.flatten [wX G xx σxx]) H → va_D A (List.flatten [wX G xx σxx]) → va_S A s.heap H locs → lv_has ls 4 [(0, .ref (xx 0)), (1, .int v1), (2, .int v2)] → gX11_layFits_2 F v1 n v2 σxx = some z → W p l e (RM 4) s m args below meth c H locs 0 0 Q (F0 m 2 ls []) := by
  obtain ⟨hx, hb, hr, hml, hts, hown, hlocks, hA, hG⟩ := id K
  intro n
  induction n with
  | zero =>
    intro v2 σxx H locs ls hP hD hS hl h
    have h : none = some z := h
    cases h
  | succ n ih =>
    intro v2 σxx H locs ls hP hD hS hl h
    have h : gbX11_layFits_2 F v1 (gX11_layFits_2 F v1 n) v2 σxx = some z := h
    unfold gbX11_layFits_2 at h
    refine lv_iload_n hx hb dX11_layFits_2 rfl (lv_at hl 2 rfl) ?_
    refine lv_sipush (v := 480) hx hb dX11_layFits_3 lh_480 ?_
    refine lv_icmp_ge (tgt := 57) hx hb dX11_layFits_6 (by decide) (fun c1 => ?_) (fun c1 => ?_)
    · have h := if_t c1 h
      cases h
      exact kk _ _ _ hP hD hS (lv_sub hl [0, 1, 2] rfl)
    · have h := if_f c1 h
      refine lv_aload_n hx hb dX11_layFits_9 rfl (lv_at hl 0 rfl) ?_
      refine va_get (D := G.1) (cl := vwCl) (tys := tysG G) (ci := 11) (v := .ref (xx 27)) (C := RX11) (T := TX11) (N := 37) hx hb hts iX11 hown hG.1 hP 0 rfl rfl 26 (Nat.le_of_ble_eq_true rfl) (hts _ tw_4_123) (fun _ h9 => h9) rfl dX11_layFits_10 ?_
      refine lv_iload_n hx hb dX11_layFits_13 rfl (lv_at hl 2 rfl) ?_
      refine lv_iload_n hx hb dX11_layFits_14 rfl (lv_at hl 2 rfl) ?_
      refine lv_iconst (v := 3) hx hb dX11_layFits_15 li_3 ?_
      refine lv_irem hx hb dX11_layFits_16 (by decide) ?_
      refine lv_if_ne (tgt := 24) hx hb dX11_layFits_17 (by decide) (fun c2 => ?_) (fun c2 => ?_)
      · have h := if_f c2 h
        refine lv_iload_n hx hb dX11_layFits_24 rfl (lv_at hl 2 rfl) ?_
        refine lv_iconst (v := 3) hx hb dX11_layFits_25 li_3 ?_
        refine lv_irem hx hb dX11_layFits_26 (by decide) ?_
        refine lv_iconst (v := 1) hx hb dX11_layFits_27 li_1 ?_
        refine lv_icmp_ne (tgt := 35) hx hb dX11_layFits_28 (by decide) (fun c3 => ?_) (fun c3 => ?_)
        · have h := if_f c3 h
          refine lv_bipush (v := 6) hx hb dX11_layFits_35 lb_6 ?_
          refine lv_iload_n hx hb dX11_layFits_37 rfl (lv_at hl 2 rfl) ?_
          refine lv_iconst (v := 3) hx hb dX11_layFits_38 li_3 ?_
          refine lv_idiv hx hb dX11_layFits_39 (by decide) ?_
          refine lv_bipush (v := 10) hx hb dX11_layFits_40 lb_10 ?_
          refine lv_irem hx hb dX11_layFits_42 (by decide) ?_
          refine lv_iload_n hx hb dX11_layFits_43 rfl (lv_at hl 2 rfl) ?_
          refine lv_bipush (v := 30) hx hb dX11_layFits_44 lb_30 ?_
          refine lv_idiv hx hb dX11_layFits_46 (by decide) ?_
          obtain ⟨r4, hc5, h⟩ := bd_ex h
          refine sl_S K (mX11_reach l G F (6 : Int32) ((v2 / (3 : Int32)) - (v2 / (3 : Int32)) / (10 : Int32) * (10 : Int32)) (v2 / (30 : Int32)) hc5) tw_5_106 tw_1_12 tw_5_105 tw_5_104 cdX11_reach ⟨Nat.le_of_ble_eq_true rfl, Nat.le_of_ble_eq_true rfl⟩ hP hD hS [] rfl rfl rfl rfl hl.1 (Nat.le_of_ble_eq_true rfl) ⟨Nat.zero_le _, Nat.zero_le _⟩ dX11_layFits_47 (fun H locs hP hD hS => ?_)
          have hP : va_P G.1 vwCl (List.flatten [wX G xx σxx]) H := hP
          have hD : va_D A (List.flatten [wX G xx σxx]) := hD
          obtain ⟨ck6, h⟩ := ck h
          obtain ⟨s7, e8, h⟩ := nm_ex h
          refine va_iast hx hb hG.1 hP hD hS 14 0 rfl rfl ck6 dX11_layFits_50 (fun H locs hP hD hS => ?_)
          have hP : va_P G.1 vwCl (List.flatten [wX G xx s7]) H := by rw [e8]; exact hP
          have hD : va_D A (List.flatten [wX G xx s7]) := by rw [e8]; exact hD
          refine lv_iinc (v := v2 + 1) (lv' := [(2, .int (v2 + 1)), (0, .ref (xx 0)), (1, .int v1)]) hx hb dX11_layFits_51 hl (k := 2) rfl (by rw [li_1]) (Nat.le_of_ble_eq_true rfl) rfl (fun ls hl => ?_)
          refine lv_goto (tgt := 2) hx hb dX11_layFits_54 (by decide) ?_
          exact ih (v2 + 1) s7 _ _ _ hP hD hS (lv_sub hl [1, 2, 0] rfl) h
        · have h := if_t c3 h
          refine lv_iconst (v := 3) hx hb dX11_layFits_31 li_3 ?_
          refine lv_goto (tgt := 37) hx hb dX11_layFits_32 (by decide) ?_
          refine lv_iload_n hx hb dX11_layFits_37 rfl (lv_at hl 2 rfl) ?_
          refine lv_iconst (v := 3) hx hb dX11_layFits_38 li_3 ?_
          refine lv_idiv hx hb dX11_layFits_39 (by decide) ?_
          refine lv_bipush (v := 10) hx hb dX11_layFits_40 lb_10 ?_
          refine lv_irem hx hb dX11_layFits_42 (by decide) ?_
          refine lv_iload_n hx hb dX11_layFits_43 rfl (lv_at hl 2 rfl) ?_
          refine lv_bipush (v := 30) hx hb dX11_layFits_44 lb_30 ?_
          refine lv_idiv hx hb dX11_layFits_46 (by decide) ?_
          obtain ⟨r9, hc10, h⟩ := bd_ex h
          refine sl_S K (mX11_reach l G F (3 : Int32) ((v2 / (3 : Int32)) - (v2 / (3 : Int32)) / (10 : Int32) * (10 : Int32)) (v2 / (30 : Int32)) hc10) tw_5_106 tw_1_12 tw_5_105 tw_5_104 cdX11_reach ⟨Nat.le_of_ble_eq_true rfl, Nat.le_of_ble_eq_true rfl⟩ hP hD hS [] rfl rfl rfl rfl hl.1 (Nat.le_of_ble_eq_true rfl) ⟨Nat.zero_le _, Nat.zero_le _⟩ dX11_layFits_47 (fun H locs hP hD hS => ?_)
          have hP : va_P G.1 vwCl (List.flatten [wX G xx σxx]) H := hP
          have hD : va_D A (List.flatten [wX G xx σxx]) := hD
          obtain ⟨ck11, h⟩ := ck h
          obtain ⟨s12, e13, h⟩ := nm_ex h
          refine va_iast hx hb hG.1 hP hD hS 14 0 rfl rfl ck11 dX11_layFits_50 (fun H locs hP hD hS => ?_)
          have hP : va_P G.1 vwCl (List.flatten [wX G xx s12]) H := by rw [e13]; exact hP
          have hD : va_D A (List.flatten [wX G xx s12]) := by rw [e13]; exact hD
          refine lv_iinc (v := v2 + 1) (lv' := [(2, .int (v2 + 1)), (0, .ref (xx 0)), (1, .int v1)]) hx hb dX11_layFits_51 hl (k := 2) rfl (by rw [li_1]) (Nat.le_of_ble_eq_true rfl) rfl (fun ls hl => ?_)
          refine lv_goto (tgt := 2) hx hb dX11_layFits_54 (by decide) ?_
          exact ih (v2 + 1) s12 _ _ _ hP hD hS (lv_sub hl [1, 2, 0] rfl) h
      · have h := if_t c2 h
        refine lv_iconst (v := 0) hx hb dX11_layFits_20 li_0 ?_
        refine lv_goto (tgt := 50) hx hb dX11_layFits_21 (by decide) ?_
        obtain ⟨ck14, h⟩ := ck h
        obtain ⟨s15, e16, h⟩ := nm_ex h
        refine va_iast hx hb hG.1 hP hD hS 14 0 rfl rfl ck14 dX11_layFits_50 (fun H locs hP hD hS => ?_)
        have hP : va_P G.1 vwCl (List.flatten [wX G xx s15]) H := by rw [e16]; exact hP
        have hD : va_D A (List.flatten [wX G xx s15]) := by rw [e16]; exact hD
        refine lv_iinc (v := v2 + 1) (lv' := [(2, .int (v2 + 1)), (0, .ref (xx 0)), (1, .int v1)]) hx hb dX11_layFits_51 hl (k := 2) rfl (by rw [li_1]) (Nat.le_of_ble_eq_true rfl) rfl (fun ls hl => ?_)
        refine lv_goto (tgt := 2) hx hb dX11_layFits_54 (by decide) ?_
        exact ih (v2 + 1) s15 _ _ _ hP hD hS (lv_sub hl [1, 2, 0] rfl) h
def gbX11_layFits_83 (F : Nat) (v1 : Int32) (rc : Int32 → ST → Option (Int32 × ST)) (v2 : Int32) (σxx : ST) : Option (Int32 × ST) :=
  if (16384 : Int32) ≤ v2 then
    some (v2, σxx)
  else
    if v1 = 0 then
      some (v2, σxx)
    else
      if v2 < 0 ∨ 16384 ≤ v2.toNatClampNeg then none else
      nm (sA σxx 31 v2.toNatClampNeg (vp_nar .boolean (0 : Int32))) fun (s30 : ST) =>
      rc (v2 + 1) s30
def gX11_layFits_83 (F : Nat) (v1 : Int32) : Nat → Int32 → ST → Option (Int32 × ST)
  | 0, _, _ => none
  | n + 1, v2, σxx => gbX11_layFits_83 F v1 (gX11_layFits_83 F v1 n) v2 σxx
set_option maxHeartbeats 4000000 in
set_option maxRecDepth 100000 in
theorem kX11_layFits_83 {p : Program} {l : Launch} {e : Env} {s : State} {m : MethodId} {args : Array Value} {below : List Frame} {meth : Method} {c : Code} {A : Nat → Prop} {Q : State → Prop} {G : GP} (K : Cx p s m meth c G cX11_layFits RX11 4 none args A) (F : Nat) (xx : Nat → Nat) (v1 : Int32) {z : Int32 × ST} (kk : ∀ (H : Heap) (locs : List Loc) (ls : Array Slot), va_P G.1 vwCl (List.flatten [wX G xx z.2]) H → va_D A (List.flatten [wX G xx z.2]) → va_S A s.heap H locs → lv_has ls 4 [(0, .ref (xx 0)), (1, .int v1), (2, .int z.1)] → W p l e (RM 4) s m args below meth c H locs 0 0 Q (F0 m 107 ls [])) :
    ∀ (n : Nat) (v2 : Int32) (σxx : ST) (H : Heap) (locs : List Loc) (ls : Array Slot), va_P G.1 vwCl (List.flatten [wX G xx σxx]) H → va_D A (List.flatten [wX G xx σxx]) → va_S A s.heap H locs → lv_has ls 4 [(0, .ref (xx 0)), (1, .int v1), (2, .int v2)] → gX11_layFits_83 F v1 n v2 σxx = some z → W p l e (RM 4) s m args below meth c H locs 0 0 Q (F0 m 83 ls []) := by
  obtain ⟨hx, hb, hr, hml, hts, hown, hlocks, hA, hG⟩ := id K
  intro n
  induction n with
  | zero =>
    intro v2 σxx H locs ls hP hD hS hl h
    have h : none = some z := h
    cases h
  | succ n ih =>
    intro v2 σxx H locs ls hP hD hS hl h
    have h : gbX11_layFits_83 F v1 (gX11_layFits_83 F v1 n) v2 σxx = some z := h
    unfold gbX11_layFits_83 at h
    refine lv_iload_n hx hb dX11_layFits_83 rfl (lv_at hl 2 rfl) ?_
    refine lv_sipush (v := 16384) hx hb dX11_layFits_84 lh_16384 ?_
    refine lv_icmp_ge (tgt := 107) hx hb dX11_layFits_87 (by decide) (fun c27 => ?_) (fun c27 => ?_)
    · have h := if_t c27 h
      cases h
      exact kk _ _ _ hP hD hS (lv_sub hl [0, 1, 2] rfl)
    · have h := if_f c27 h
      refine lv_iload_n hx hb dX11_layFits_90 rfl (lv_at hl 1 rfl) ?_
      refine lv_if_eq (tgt := 107) hx hb dX11_layFits_91 (by decide) (fun c28 => ?_) (fun c28 => ?_)
      · have h := if_t c28 h
        cases h
        exact kk _ _ _ hP hD hS (lv_sub hl [0, 1, 2] rfl)
      · have h := if_f c28 h
        refine lv_aload_n hx hb dX11_layFits_94 rfl (lv_at hl 0 rfl) ?_
        refine va_get (D := G.1) (cl := vwCl) (tys := tysG G) (ci := 11) (v := .ref (xx 32)) (C := RX11) (T := TX11) (N := 37) hx hb hts iX11 hown hG.1 hP 0 rfl rfl 31 (Nat.le_of_ble_eq_true rfl) (hts _ tw_4_128) (fun _ h9 => h9) rfl dX11_layFits_95 ?_
        refine lv_iload_n hx hb dX11_layFits_98 rfl (lv_at hl 2 rfl) ?_
        refine lv_iconst (v := 0) hx hb dX11_layFits_99 li_0 ?_
        obtain ⟨ck29, h⟩ := ck h
        obtain ⟨s30, e31, h⟩ := nm_ex h
        refine va_zast hx hb hG.1 hP hD hS 15 2 rfl rfl ck29 dX11_layFits_100 (fun H locs hP hD hS => ?_)
        have hP : va_P G.1 vwCl (List.flatten [wX G xx s30]) H := by rw [e31]; exact hP
        have hD : va_D A (List.flatten [wX G xx s30]) := by rw [e31]; exact hD
        refine lv_iinc (v := v2 + 1) (lv' := [(2, .int (v2 + 1)), (0, .ref (xx 0)), (1, .int v1)]) hx hb dX11_layFits_101 hl (k := 2) rfl (by rw [li_1]) (Nat.le_of_ble_eq_true rfl) rfl (fun ls hl => ?_)
        refine lv_goto (tgt := 83) hx hb dX11_layFits_104 (by decide) ?_
        exact ih (v2 + 1) s30 _ _ _ hP hD hS (lv_sub hl [1, 2, 0] rfl) h
def gbX11_layFits_140 (F : Nat) (v1 : Int32) (v2 : Int32) (rc : Int32 → ST → Option (Int32 × ST)) (v3 : Int32) (σxx : ST) : Option (Int32 × ST) :=
  if (16 : Int32) ≤ v3 then
    some (v3, σxx)
  else
    if v1 = 0 then
      some (v3, σxx)
    else
      (fX11_rowDark F σxx v2 v3).bind fun r44 =>
      if (((1024 : Int32) * v3) + r44) < 0 ∨ 16384 ≤ (((1024 : Int32) * v3) + r44).toNatClampNeg then none else
      nm (sA σxx 31 (((1024 : Int32) * v3) + r44).toNatClampNeg (vp_nar .boolean (1 : Int32))) fun (s47 : ST) =>
      rc (v3 + 1) s47
def gX11_layFits_140 (F : Nat) (v1 : Int32) (v2 : Int32) : Nat → Int32 → ST → Option (Int32 × ST)
  | 0, _, _ => none
  | n + 1, v3, σxx => gbX11_layFits_140 F v1 v2 (gX11_layFits_140 F v1 v2 n) v3 σxx
set_option maxHeartbeats 4000000 in
set_option maxRecDepth 100000 in
theorem kX11_layFits_140 {p : Program} {l : Launch} {e : Env} {s : State} {m : MethodId} {args : Array Value} {below : List Frame} {meth : Method} {c : Code} {A : Nat → Prop} {Q : State → Prop} {G : GP} (K : Cx p s m meth c G cX11_layFits RX11 4 none args A) (F : Nat) (xx : Nat → Nat) (v1 : Int32) (v2 : Int32) {z : Int32 × ST} (kk : ∀ (H : Heap) (locs : List Loc) (ls : Array Slot), va_P G.1 vwCl (List.flatten [wX G xx z.2]) H → va_D A (List.flatten [wX G xx z.2]) → va_S A s.heap H locs → lv_has ls 4 [(0, .ref (xx 0)), (1, .int v1), (2, .int v2), (3, .int z.1)] → W p l e (RM 4) s m args below meth c H locs 0 0 Q (F0 m 174 ls [])) :
    ∀ (n : Nat) (v3 : Int32) (σxx : ST) (H : Heap) (locs : List Loc) (ls : Array Slot), va_P G.1 vwCl (List.flatten [wX G xx σxx]) H → va_D A (List.flatten [wX G xx σxx]) → va_S A s.heap H locs → lv_has ls 4 [(0, .ref (xx 0)), (1, .int v1), (2, .int v2), (3, .int v3)] → gX11_layFits_140 F v1 v2 n v3 σxx = some z → W p l e (RM 4) s m args below meth c H locs 0 0 Q (F0 m 140 ls []) := by
  obtain ⟨hx, hb, hr, hml, hts, hown, hlocks, hA, hG⟩ := id K
  intro n
  induction n with
  | zero =>
    intro v3 σxx H locs ls hP hD hS hl h
    have h : none = some z := h
    cases h
  | succ n ih =>
    intro v3 σxx H locs ls hP hD hS hl h
    have h : gbX11_layFits_140 F v1 v2 (gX11_layFits_140 F v1 v2 n) v3 σxx = some z := h
    unfold gbX11_layFits_140 at h
    refine lv_iload_n hx hb dX11_layFits_140 rfl (lv_at hl 3 rfl) ?_
    refine lv_bipush (v := 16) hx hb dX11_layFits_141 lb_16 ?_
    refine lv_icmp_ge (tgt := 174) hx hb dX11_layFits_143 (by decide) (fun c42 => ?_) (fun c42 => ?_)
    · have h := if_t c42 h
      cases h
      exact kk _ _ _ hP hD hS (lv_sub hl [0, 1, 2, 3] rfl)
    · have h := if_f c42 h
      refine lv_iload_n hx hb dX11_layFits_146 rfl (lv_at hl 1 rfl) ?_
      refine lv_if_eq (tgt := 174) hx hb dX11_layFits_147 (by decide) (fun c43 => ?_) (fun c43 => ?_)
      · have h := if_t c43 h
        cases h
        exact kk _ _ _ hP hD hS (lv_sub hl [0, 1, 2, 3] rfl)
      · have h := if_f c43 h
        refine lv_aload_n hx hb dX11_layFits_150 rfl (lv_at hl 0 rfl) ?_
        refine va_get (D := G.1) (cl := vwCl) (tys := tysG G) (ci := 11) (v := .ref (xx 32)) (C := RX11) (T := TX11) (N := 37) hx hb hts iX11 hown hG.1 hP 0 rfl rfl 31 (Nat.le_of_ble_eq_true rfl) (hts _ tw_4_128) (fun _ h9 => h9) rfl dX11_layFits_151 ?_
        refine lv_sipush (v := 1024) hx hb dX11_layFits_154 lh_1024 ?_
        refine lv_iload_n hx hb dX11_layFits_157 rfl (lv_at hl 3 rfl) ?_
        refine lv_imul hx hb dX11_layFits_158 ?_
        refine lv_aload_n hx hb dX11_layFits_159 rfl (lv_at hl 0 rfl) ?_
        refine lv_iload_n hx hb dX11_layFits_160 rfl (lv_at hl 2 rfl) ?_
        refine lv_iload_n hx hb dX11_layFits_161 rfl (lv_at hl 3 rfl) ?_
        obtain ⟨r44, hc45, h⟩ := bd_ex h
        refine sl_V (q0 := 0) (ci := 11) (C := RX11) K (mX11_rowDark l G F xx σxx v2 v3 hc45) tw_5_177 tw_1_12 tw_5_176 tw_0_20 tw_5_174 cdX11_rowDark ⟨Nat.le_of_ble_eq_true rfl, Nat.le_of_ble_eq_true rfl⟩ hP hD hS [0] rfl rfl rfl rfl rfl rfl rfl hl.1 (Nat.le_of_ble_eq_true rfl) ⟨Nat.zero_le _, Nat.zero_le _⟩ dX11_layFits_162 (fun H locs hP hD hS => ?_)
        have hP : va_P G.1 vwCl (List.flatten [wX G xx σxx]) H := hP
        have hD : va_D A (List.flatten [wX G xx σxx]) := hD
        refine lv_iadd hx hb dX11_layFits_165 ?_
        refine lv_iconst (v := 1) hx hb dX11_layFits_166 li_1 ?_
        obtain ⟨ck46, h⟩ := ck h
        obtain ⟨s47, e48, h⟩ := nm_ex h
        refine va_zast hx hb hG.1 hP hD hS 15 2 rfl rfl ck46 dX11_layFits_167 (fun H locs hP hD hS => ?_)
        have hP : va_P G.1 vwCl (List.flatten [wX G xx s47]) H := by rw [e48]; exact hP
        have hD : va_D A (List.flatten [wX G xx s47]) := by rw [e48]; exact hD
        refine lv_iinc (v := v3 + 1) (lv' := [(3, .int (v3 + 1)), (0, .ref (xx 0)), (1, .int v1), (2, .int v2)]) hx hb dX11_layFits_168 hl (k := 3) rfl (by rw [li_1]) (Nat.le_of_ble_eq_true rfl) rfl (fun ls hl => ?_)
        refine lv_goto (tgt := 140) hx hb dX11_layFits_171 (by decide) ?_
        exact ih (v3 + 1) s47 _ _ _ hP hD hS (lv_sub hl [1, 2, 3, 0] rfl) h
def gbX11_layFits_109 (F : Nat) (v1 : Int32) (rc : Int32 → ST → Option (Int32 × ST)) (v2 : Int32) (σxx : ST) : Option (Int32 × ST) :=
  if (59049 : Int32) ≤ v2 then
    some (v2, σxx)
  else
    (fX11_isFit F σxx v2).bind fun r35 =>
    if r35 = 0 then
      rc (v2 + 1) σxx
    else
      nm (sI σxx 27 ((σxx.1 27) + (1 : Int32))) fun (s38 : ST) =>
      (fX11_layFit F s38 v2).bind fun r40 =>
      (gX11_layFits_140 F v1 v2 F (0 : Int32) r40).bind fun z49 =>
        rc (v2 + 1) z49.2
def gX11_layFits_109 (F : Nat) (v1 : Int32) : Nat → Int32 → ST → Option (Int32 × ST)
  | 0, _, _ => none
  | n + 1, v2, σxx => gbX11_layFits_109 F v1 (gX11_layFits_109 F v1 n) v2 σxx
set_option maxHeartbeats 4000000 in
set_option maxRecDepth 100000 in
theorem kX11_layFits_109 {p : Program} {l : Launch} {e : Env} {s : State} {m : MethodId} {args : Array Value} {below : List Frame} {meth : Method} {c : Code} {A : Nat → Prop} {Q : State → Prop} {G : GP} (K : Cx p s m meth c G cX11_layFits RX11 4 none args A) (F : Nat) (xx : Nat → Nat) (v1 : Int32) {z : Int32 × ST} (kk : ∀ (H : Heap) (locs : List Loc) (ls : Array Slot), va_P G.1 vwCl (List.flatten [wX G xx z.2]) H → va_D A (List.flatten [wX G xx z.2]) → va_S A s.heap H locs → lv_has ls 4 [(0, .ref (xx 0)), (1, .int v1), (2, .int z.1)] → W p l e (RM 4) s m args below meth c H locs 0 0 Q (F0 m 180 ls [])) :
    ∀ (n : Nat) (v2 : Int32) (σxx : ST) (H : Heap) (locs : List Loc) (ls : Array Slot), va_P G.1 vwCl (List.flatten [wX G xx σxx]) H → va_D A (List.flatten [wX G xx σxx]) → va_S A s.heap H locs → lv_has ls 4 [(0, .ref (xx 0)), (1, .int v1), (2, .int v2)] → gX11_layFits_109 F v1 n v2 σxx = some z → W p l e (RM 4) s m args below meth c H locs 0 0 Q (F0 m 109 ls []) := by
  obtain ⟨hx, hb, hr, hml, hts, hown, hlocks, hA, hG⟩ := id K
  intro n
  induction n with
  | zero =>
    intro v2 σxx H locs ls hP hD hS hl h
    have h : none = some z := h
    cases h
  | succ n ih =>
    intro v2 σxx H locs ls hP hD hS hl h
    have h : gbX11_layFits_109 F v1 (gX11_layFits_109 F v1 n) v2 σxx = some z := h
    unfold gbX11_layFits_109 at h
    refine lv_iload_n hx hb dX11_layFits_109 rfl (lv_at hl 2 rfl) ?_
    refine lv_ldc (v := 59049) hx hb hown (hts _ tw_5_169) dX11_layFits_110 ?_
    refine lv_icmp_ge (tgt := 180) hx hb dX11_layFits_112 (by decide) (fun c34 => ?_) (fun c34 => ?_)
    · have h := if_t c34 h
      cases h
      exact kk _ _ _ hP hD hS (lv_sub hl [0, 1, 2] rfl)
    · have h := if_f c34 h
      refine lv_aload_n hx hb dX11_layFits_115 rfl (lv_at hl 0 rfl) ?_
      refine lv_iload_n hx hb dX11_layFits_116 rfl (lv_at hl 2 rfl) ?_
      obtain ⟨r35, hc36, h⟩ := bd_ex h
      refine sl_V (q0 := 0) (ci := 11) (C := RX11) K (mX11_isFit l G F xx σxx v2 hc36) tw_5_173 tw_1_12 tw_5_172 tw_0_19 tw_5_170 cdX11_isFit ⟨Nat.le_of_ble_eq_true rfl, Nat.le_of_ble_eq_true rfl⟩ hP hD hS [0] rfl rfl rfl rfl rfl rfl rfl hl.1 (Nat.le_of_ble_eq_true rfl) ⟨Nat.zero_le _, Nat.zero_le _⟩ dX11_layFits_117 (fun H locs hP hD hS => ?_)
      have hP : va_P G.1 vwCl (List.flatten [wX G xx σxx]) H := hP
      have hD : va_D A (List.flatten [wX G xx σxx]) := hD
      refine lv_if_eq (tgt := 174) hx hb dX11_layFits_120 (by decide) (fun c37 => ?_) (fun c37 => ?_)
      · have h := if_t c37 h
        refine lv_iinc (v := v2 + 1) (lv' := [(2, .int (v2 + 1)), (0, .ref (xx 0)), (1, .int v1)]) hx hb dX11_layFits_174 hl (k := 2) rfl (by rw [li_1]) (Nat.le_of_ble_eq_true rfl) rfl (fun ls hl => ?_)
        refine lv_goto (tgt := 109) hx hb dX11_layFits_177 (by decide) ?_
        exact ih (v2 + 1) σxx _ _ _ hP hD hS (lv_sub hl [1, 2, 0] rfl) h
      · have h := if_f c37 h
        refine lv_aload_n hx hb dX11_layFits_123 rfl (lv_at hl 0 rfl) ?_
        refine lv_dup hx hb dX11_layFits_124 rfl ?_
        refine va_get (D := G.1) (cl := vwCl) (tys := tysG G) (ci := 11) (v := .int (σxx.1 27)) (C := RX11) (T := TX11) (N := 37) hx hb hts iX11 hown hG.1 hP 0 rfl rfl 27 (Nat.le_of_ble_eq_true rfl) (hts _ tw_4_124) (fun _ h9 => h9) rfl dX11_layFits_125 ?_
        refine lv_iconst (v := 1) hx hb dX11_layFits_128 li_1 ?_
        refine lv_iadd hx hb dX11_layFits_129 ?_
        obtain ⟨s38, e39, h⟩ := nm_ex h
        refine va_put (D := G.1) (cl := vwCl) (tys := tysG G) (ci := 11) (v := .int ((σxx.1 27) + (1 : Int32))) (ty := .int) (C := RX11) (T := TX11) (N := 37) hx hb hts iX11 tyX11 tyX11_ok nmX11 hown hG.1 hP hD hS 0 rfl rfl 27 (Nat.le_of_ble_eq_true rfl) (hts _ tw_4_124) (fun _ h9 => h9) rfl (by decide +kernel) rfl rfl (Nat.le_of_ble_eq_true rfl) dX11_layFits_130 (fun H locs hP hD hS => ?_)
        have hP : va_P G.1 vwCl (List.flatten [wX G xx s38]) H := by rw [e39]; exact hP
        have hD : va_D A (List.flatten [wX G xx s38]) := by rw [e39]; exact hD
        refine lv_aload_n hx hb dX11_layFits_133 rfl (lv_at hl 0 rfl) ?_
        refine lv_iload_n hx hb dX11_layFits_134 rfl (lv_at hl 2 rfl) ?_
        obtain ⟨r40, hc41, h⟩ := bd_ex h
        refine sl_V (q0 := 0) (ci := 11) (C := RX11) K (mX11_layFit l G F xx s38 v2 hc41) tw_5_181 tw_1_12 tw_5_180 tw_0_21 tw_5_178 cdX11_layFit ⟨Nat.le_of_ble_eq_true rfl, Nat.le_of_ble_eq_true rfl⟩ hP hD hS [0] rfl rfl rfl rfl rfl rfl rfl hl.1 (Nat.le_of_ble_eq_true rfl) ⟨Nat.zero_le _, Nat.zero_le _⟩ dX11_layFits_135 (fun H locs hP hD hS => ?_)
        have hP : va_P G.1 vwCl (List.flatten [wX G xx r40]) H := hP
        have hD : va_D A (List.flatten [wX G xx r40]) := hD
        refine lv_iconst (v := 0) hx hb dX11_layFits_138 li_0 ?_
        refine lv_istore_n (lv' := [(3, .int (0 : Int32)), (0, .ref (xx 0)), (1, .int v1), (2, .int v2)]) hx hb dX11_layFits_139 rfl hl (Nat.le_of_ble_eq_true rfl) rfl (fun ls hl => ?_)
        obtain ⟨z49, hz50, h⟩ := bd_ex h
        refine kX11_layFits_140 K F xx v1 v2 (fun H locs ls hP hD hS hl => ?_) F (0 : Int32) r40 _ _ _ hP hD hS (lv_sub hl [1, 2, 3, 0] rfl) hz50
        refine lv_iinc (v := v2 + 1) (lv' := [(2, .int (v2 + 1)), (0, .ref (xx 0)), (1, .int v1), (3, .int z49.1)]) hx hb dX11_layFits_174 hl (k := 2) rfl (by rw [li_1]) (Nat.le_of_ble_eq_true rfl) rfl (fun ls hl => ?_)
        refine lv_goto (tgt := 109) hx hb dX11_layFits_177 (by decide) ?_
        exact ih (v2 + 1) z49.2 _ _ _ hP hD hS (lv_sub hl [1, 2, 0] rfl) h
def fX11_layFits (F : Nat) (σxx : ST) (x1 : Int32) : Option (ST) :=
  (gX11_layFits_2 F x1 F (0 : Int32) σxx).bind fun z17 =>
    nm (sI z17.2 27 (0 : Int32)) fun (s19 : ST) =>
    nm (sI s19 28 (99 : Int32)) fun (s21 : ST) =>
    nm (sI s21 29 (-9 : Int32)) fun (s23 : ST) =>
    nm (sI s23 30 (1023 : Int32)) fun (s25 : ST) =>
    (gX11_layFits_83 F x1 F (0 : Int32) s25).bind fun z32 =>
      (gX11_layFits_109 F x1 F (0 : Int32) z32.2).bind fun z51 =>
        some z51.2
theorem cdX11_layFits : CallD yX11_layFits 1 := by decide +kernel
set_option maxHeartbeats 4000000 in
set_option maxRecDepth 100000 in
theorem mX11_layFits (l : Launch) (G : GP) (F : Nat) (xx : Nat → Nat) (σxx : ST) (x1 : Int32) {r : ST} (h : fX11_layFits F σxx x1 = some r) : CC l G yX11_layFits cX11_layFits 4 none 4 [.ref (xx 0), .int x1] (List.flatten [wX G xx σxx]) (List.flatten [wX G xx r]) none := by
  refine CC.of (by decide) (Nat.le_of_ble_eq_true rfl) ?_
  intro p e s m below meth c A K hP hD hS ls hl
  obtain ⟨hx, hb, hr, hml, hts, hown, hlocks, hA, hG⟩ := id K
  have hl : lv_has ls 4 [(0, .ref (xx 0)), (1, .int x1)] := hl
  unfold fX11_layFits at h
  refine lv_iconst (v := 0) hx hb dX11_layFits_0 li_0 ?_
  refine lv_istore_n (lv' := [(2, .int (0 : Int32)), (0, .ref (xx 0)), (1, .int x1)]) hx hb dX11_layFits_1 rfl hl (Nat.le_of_ble_eq_true rfl) rfl (fun ls hl => ?_)
  obtain ⟨z17, hz18, h⟩ := bd_ex h
  refine kX11_layFits_2 K F xx x1 (fun H locs ls hP hD hS hl => ?_) F (0 : Int32) σxx _ _ _ hP hD hS (lv_sub hl [1, 2, 0] rfl) hz18
  refine lv_aload_n hx hb dX11_layFits_57 rfl (lv_at hl 0 rfl) ?_
  refine lv_iconst (v := 0) hx hb dX11_layFits_58 li_0 ?_
  obtain ⟨s19, e20, h⟩ := nm_ex h
  refine va_put (D := G.1) (cl := vwCl) (tys := tysG G) (ci := 11) (v := .int (0 : Int32)) (ty := .int) (C := RX11) (T := TX11) (N := 37) hx hb hts iX11 tyX11 tyX11_ok nmX11 hown hG.1 hP hD hS 0 rfl rfl 27 (Nat.le_of_ble_eq_true rfl) (hts _ tw_4_124) (fun _ h9 => h9) rfl (by decide +kernel) rfl rfl (Nat.le_of_ble_eq_true rfl) dX11_layFits_59 (fun H locs hP hD hS => ?_)
  have hP : va_P G.1 vwCl (List.flatten [wX G xx s19]) H := by rw [e20]; exact hP
  have hD : va_D A (List.flatten [wX G xx s19]) := by rw [e20]; exact hD
  refine lv_aload_n hx hb dX11_layFits_62 rfl (lv_at hl 0 rfl) ?_
  refine lv_bipush (v := 99) hx hb dX11_layFits_63 lb_99 ?_
  obtain ⟨s21, e22, h⟩ := nm_ex h
  refine va_put (D := G.1) (cl := vwCl) (tys := tysG G) (ci := 11) (v := .int (99 : Int32)) (ty := .int) (C := RX11) (T := TX11) (N := 37) hx hb hts iX11 tyX11 tyX11_ok nmX11 hown hG.1 hP hD hS 0 rfl rfl 28 (Nat.le_of_ble_eq_true rfl) (hts _ tw_4_125) (fun _ h9 => h9) rfl (by decide +kernel) rfl rfl (Nat.le_of_ble_eq_true rfl) dX11_layFits_65 (fun H locs hP hD hS => ?_)
  have hP : va_P G.1 vwCl (List.flatten [wX G xx s21]) H := by rw [e22]; exact hP
  have hD : va_D A (List.flatten [wX G xx s21]) := by rw [e22]; exact hD
  refine lv_aload_n hx hb dX11_layFits_68 rfl (lv_at hl 0 rfl) ?_
  refine lv_bipush (v := -9) hx hb dX11_layFits_69 lb_m9 ?_
  obtain ⟨s23, e24, h⟩ := nm_ex h
  refine va_put (D := G.1) (cl := vwCl) (tys := tysG G) (ci := 11) (v := .int (-9 : Int32)) (ty := .int) (C := RX11) (T := TX11) (N := 37) hx hb hts iX11 tyX11 tyX11_ok nmX11 hown hG.1 hP hD hS 0 rfl rfl 29 (Nat.le_of_ble_eq_true rfl) (hts _ tw_4_126) (fun _ h9 => h9) rfl (by decide +kernel) rfl rfl (Nat.le_of_ble_eq_true rfl) dX11_layFits_71 (fun H locs hP hD hS => ?_)
  have hP : va_P G.1 vwCl (List.flatten [wX G xx s23]) H := by rw [e24]; exact hP
  have hD : va_D A (List.flatten [wX G xx s23]) := by rw [e24]; exact hD
  refine lv_aload_n hx hb dX11_layFits_74 rfl (lv_at hl 0 rfl) ?_
  refine lv_sipush (v := 1023) hx hb dX11_layFits_75 lh_1023 ?_
  obtain ⟨s25, e26, h⟩ := nm_ex h
  refine va_put (D := G.1) (cl := vwCl) (tys := tysG G) (ci := 11) (v := .int (1023 : Int32)) (ty := .int) (C := RX11) (T := TX11) (N := 37) hx hb hts iX11 tyX11 tyX11_ok nmX11 hown hG.1 hP hD hS 0 rfl rfl 30 (Nat.le_of_ble_eq_true rfl) (hts _ tw_4_127) (fun _ h9 => h9) rfl (by decide +kernel) rfl rfl (Nat.le_of_ble_eq_true rfl) dX11_layFits_78 (fun H locs hP hD hS => ?_)
  have hP : va_P G.1 vwCl (List.flatten [wX G xx s25]) H := by rw [e26]; exact hP
  have hD : va_D A (List.flatten [wX G xx s25]) := by rw [e26]; exact hD
  refine lv_iconst (v := 0) hx hb dX11_layFits_81 li_0 ?_
  refine lv_istore_n (lv' := [(2, .int (0 : Int32)), (0, .ref (xx 0)), (1, .int x1)]) hx hb dX11_layFits_82 rfl hl (Nat.le_of_ble_eq_true rfl) rfl (fun ls hl => ?_)
  obtain ⟨z32, hz33, h⟩ := bd_ex h
  refine kX11_layFits_83 K F xx x1 (fun H locs ls hP hD hS hl => ?_) F (0 : Int32) s25 _ _ _ hP hD hS (lv_sub hl [1, 2, 0] rfl) hz33
  refine lv_iconst (v := 0) hx hb dX11_layFits_107 li_0 ?_
  refine lv_istore_n (lv' := [(2, .int (0 : Int32)), (0, .ref (xx 0)), (1, .int x1)]) hx hb dX11_layFits_108 rfl hl (Nat.le_of_ble_eq_true rfl) rfl (fun ls hl => ?_)
  obtain ⟨z51, hz52, h⟩ := bd_ex h
  refine kX11_layFits_109 K F xx x1 (fun H locs ls hP hD hS hl => ?_) F (0 : Int32) z32.2 _ _ _ hP hD hS (lv_sub hl [1, 2, 0] rfl) hz52
  cases h
  exact rt_v K hP hD hS dX11_layFits_180
def fX11_fits (F : Nat) (σxx : ST)  : Option (Int32 × ST) :=
  (fX11_layFits F σxx (0 : Int32)).bind fun r1 =>
  some (r1.1 27, r1)
theorem cdX11_fits : CallD yX11_fits 0 := by decide +kernel
set_option maxHeartbeats 4000000 in
set_option maxRecDepth 100000 in
theorem mX11_fits (l : Launch) (G : GP) (F : Nat) (xx : Nat → Nat) (σxx : ST)  {r : Int32 × ST} (h : fX11_fits F σxx  = some r) : CC l G yX11_fits cX11_fits 1 (some .int) 5 [.ref (xx 0)] (List.flatten [wX G xx σxx]) (List.flatten [wX G xx r.2]) (some (.int r.1)) := by
  refine CC.of (by decide) (Nat.le_of_ble_eq_true rfl) ?_
  intro p e s m below meth c A K hP hD hS ls hl
  obtain ⟨hx, hb, hr, hml, hts, hown, hlocks, hA, hG⟩ := id K
  have hl : lv_has ls 1 [(0, .ref (xx 0))] := hl
  unfold fX11_fits at h
  refine lv_aload_n hx hb dX11_fits_0 rfl (lv_at hl 0 rfl) ?_
  refine lv_iconst (v := 0) hx hb dX11_fits_1 li_0 ?_
  obtain ⟨r1, hc2, h⟩ := bd_ex h
  refine sl_V (q0 := 0) (ci := 11) (C := RX11) K (mX11_layFits l G F xx σxx (0 : Int32) hc2) tw_5_168 tw_1_12 tw_5_167 tw_0_18 tw_5_165 cdX11_layFits ⟨Nat.le_of_ble_eq_true rfl, Nat.le_of_ble_eq_true rfl⟩ hP hD hS [0] rfl rfl rfl rfl rfl rfl rfl hl.1 (Nat.le_of_ble_eq_true rfl) ⟨Nat.zero_le _, Nat.zero_le _⟩ dX11_fits_2 (fun H locs hP hD hS => ?_)
  have hP : va_P G.1 vwCl (List.flatten [wX G xx r1]) H := hP
  have hD : va_D A (List.flatten [wX G xx r1]) := hD
  refine lv_aload_n hx hb dX11_fits_5 rfl (lv_at hl 0 rfl) ?_
  refine va_get (D := G.1) (cl := vwCl) (tys := tysG G) (ci := 11) (v := .int (r1.1 27)) (C := RX11) (T := TX11) (N := 37) hx hb hts iX11 hown hG.1 hP 0 rfl rfl 27 (Nat.le_of_ble_eq_true rfl) (hts _ tw_4_124) (fun _ h9 => h9) rfl dX11_fits_6 ?_
  cases h
  exact rt_i K hP hD hS dX11_fits_9
def fX11_people (F : Nat) (σxx : ST) (x1 : Int32) : Option (Int32 × ST) :=
  (fX11_layFits F σxx (0 : Int32)).bind fun r1 =>
  if (r1.1 27) = 0 then
    some ((-9 : Int32), r1)
  else
    if x1 = 0 then
      some (r1.1 28, r1)
    else
      some (r1.1 29, r1)
theorem cdX11_people : CallD yX11_people 1 := by decide +kernel
set_option maxHeartbeats 4000000 in
set_option maxRecDepth 100000 in
theorem mX11_people (l : Launch) (G : GP) (F : Nat) (xx : Nat → Nat) (σxx : ST) (x1 : Int32) {r : Int32 × ST} (h : fX11_people F σxx x1 = some r) : CC l G yX11_people cX11_people 2 (some .int) 5 [.ref (xx 0), .int x1] (List.flatten [wX G xx σxx]) (List.flatten [wX G xx r.2]) (some (.int r.1)) := by
  refine CC.of (by decide) (Nat.le_of_ble_eq_true rfl) ?_
  intro p e s m below meth c A K hP hD hS ls hl
  obtain ⟨hx, hb, hr, hml, hts, hown, hlocks, hA, hG⟩ := id K
  have hl : lv_has ls 2 [(0, .ref (xx 0)), (1, .int x1)] := hl
  unfold fX11_people at h
  refine lv_aload_n hx hb dX11_people_0 rfl (lv_at hl 0 rfl) ?_
  refine lv_iconst (v := 0) hx hb dX11_people_1 li_0 ?_
  obtain ⟨r1, hc2, h⟩ := bd_ex h
  refine sl_V (q0 := 0) (ci := 11) (C := RX11) K (mX11_layFits l G F xx σxx (0 : Int32) hc2) tw_5_168 tw_1_12 tw_5_167 tw_0_18 tw_5_165 cdX11_layFits ⟨Nat.le_of_ble_eq_true rfl, Nat.le_of_ble_eq_true rfl⟩ hP hD hS [0] rfl rfl rfl rfl rfl rfl rfl hl.1 (Nat.le_of_ble_eq_true rfl) ⟨Nat.zero_le _, Nat.zero_le _⟩ dX11_people_2 (fun H locs hP hD hS => ?_)
  have hP : va_P G.1 vwCl (List.flatten [wX G xx r1]) H := hP
  have hD : va_D A (List.flatten [wX G xx r1]) := hD
  refine lv_aload_n hx hb dX11_people_5 rfl (lv_at hl 0 rfl) ?_
  refine va_get (D := G.1) (cl := vwCl) (tys := tysG G) (ci := 11) (v := .int (r1.1 27)) (C := RX11) (T := TX11) (N := 37) hx hb hts iX11 hown hG.1 hP 0 rfl rfl 27 (Nat.le_of_ble_eq_true rfl) (hts _ tw_4_124) (fun _ h9 => h9) rfl dX11_people_6 ?_
  refine lv_if_ne (tgt := 17) hx hb dX11_people_9 (by decide) (fun c3 => ?_) (fun c3 => ?_)
  · have h := if_f c3 h
    refine lv_iload_n hx hb dX11_people_17 rfl (lv_at hl 1 rfl) ?_
    refine lv_if_eq (tgt := 28) hx hb dX11_people_18 (by decide) (fun c4 => ?_) (fun c4 => ?_)
    · have h := if_t c4 h
      refine lv_aload_n hx hb dX11_people_28 rfl (lv_at hl 0 rfl) ?_
      refine va_get (D := G.1) (cl := vwCl) (tys := tysG G) (ci := 11) (v := .int (r1.1 28)) (C := RX11) (T := TX11) (N := 37) hx hb hts iX11 hown hG.1 hP 0 rfl rfl 28 (Nat.le_of_ble_eq_true rfl) (hts _ tw_4_125) (fun _ h9 => h9) rfl dX11_people_29 ?_
      cases h
      exact rt_i K hP hD hS dX11_people_32
    · have h := if_f c4 h
      refine lv_aload_n hx hb dX11_people_21 rfl (lv_at hl 0 rfl) ?_
      refine va_get (D := G.1) (cl := vwCl) (tys := tysG G) (ci := 11) (v := .int (r1.1 29)) (C := RX11) (T := TX11) (N := 37) hx hb hts iX11 hown hG.1 hP 0 rfl rfl 29 (Nat.le_of_ble_eq_true rfl) (hts _ tw_4_126) (fun _ h9 => h9) rfl dX11_people_22 ?_
      refine lv_goto (tgt := 32) hx hb dX11_people_25 (by decide) ?_
      cases h
      exact rt_i K hP hD hS dX11_people_32
  · have h := if_t c3 h
    refine lv_bipush (v := -9) hx hb dX11_people_12 lb_m9 ?_
    refine lv_goto (tgt := 32) hx hb dX11_people_14 (by decide) ?_
    cases h
    exact rt_i K hP hD hS dX11_people_32
def fX11_sure (F : Nat) (σxx : ST)  : Option (Int32 × ST) :=
  (fX11_layFits F σxx (0 : Int32)).bind fun r1 =>
  if (r1.1 27) = 0 then
    some ((-9 : Int32), r1)
  else
    some (r1.1 30, r1)
theorem cdX11_sure : CallD yX11_sure 0 := by decide +kernel
set_option maxHeartbeats 4000000 in
set_option maxRecDepth 100000 in
theorem mX11_sure (l : Launch) (G : GP) (F : Nat) (xx : Nat → Nat) (σxx : ST)  {r : Int32 × ST} (h : fX11_sure F σxx  = some r) : CC l G yX11_sure cX11_sure 1 (some .int) 5 [.ref (xx 0)] (List.flatten [wX G xx σxx]) (List.flatten [wX G xx r.2]) (some (.int r.1)) := by
  refine CC.of (by decide) (Nat.le_of_ble_eq_true rfl) ?_
  intro p e s m below meth c A K hP hD hS ls hl
  obtain ⟨hx, hb, hr, hml, hts, hown, hlocks, hA, hG⟩ := id K
  have hl : lv_has ls 1 [(0, .ref (xx 0))] := hl
  unfold fX11_sure at h
  refine lv_aload_n hx hb dX11_sure_0 rfl (lv_at hl 0 rfl) ?_
  refine lv_iconst (v := 0) hx hb dX11_sure_1 li_0 ?_
  obtain ⟨r1, hc2, h⟩ := bd_ex h
  refine sl_V (q0 := 0) (ci := 11) (C := RX11) K (mX11_layFits l G F xx σxx (0 : Int32) hc2) tw_5_168 tw_1_12 tw_5_167 tw_0_18 tw_5_165 cdX11_layFits ⟨Nat.le_of_ble_eq_true rfl, Nat.le_of_ble_eq_true rfl⟩ hP hD hS [0] rfl rfl rfl rfl rfl rfl rfl hl.1 (Nat.le_of_ble_eq_true rfl) ⟨Nat.zero_le _, Nat.zero_le _⟩ dX11_sure_2 (fun H locs hP hD hS => ?_)
  have hP : va_P G.1 vwCl (List.flatten [wX G xx r1]) H := hP
  have hD : va_D A (List.flatten [wX G xx r1]) := hD
  refine lv_aload_n hx hb dX11_sure_5 rfl (lv_at hl 0 rfl) ?_
  refine va_get (D := G.1) (cl := vwCl) (tys := tysG G) (ci := 11) (v := .int (r1.1 27)) (C := RX11) (T := TX11) (N := 37) hx hb hts iX11 hown hG.1 hP 0 rfl rfl 27 (Nat.le_of_ble_eq_true rfl) (hts _ tw_4_124) (fun _ h9 => h9) rfl dX11_sure_6 ?_
  refine lv_if_ne (tgt := 17) hx hb dX11_sure_9 (by decide) (fun c3 => ?_) (fun c3 => ?_)
  · have h := if_f c3 h
    refine lv_aload_n hx hb dX11_sure_17 rfl (lv_at hl 0 rfl) ?_
    refine va_get (D := G.1) (cl := vwCl) (tys := tysG G) (ci := 11) (v := .int (r1.1 30)) (C := RX11) (T := TX11) (N := 37) hx hb hts iX11 hown hG.1 hP 0 rfl rfl 30 (Nat.le_of_ble_eq_true rfl) (hts _ tw_4_127) (fun _ h9 => h9) rfl dX11_sure_18 ?_
    cases h
    exact rt_i K hP hD hS dX11_sure_21
  · have h := if_t c3 h
    refine lv_bipush (v := -9) hx hb dX11_sure_12 lb_m9 ?_
    refine lv_goto (tgt := 21) hx hb dX11_sure_14 (by decide) ?_
    cases h
    exact rt_i K hP hD hS dX11_sure_21
def gbX11_next_24 (F : Nat) (σxx : ST) (v1 : Int32) (v2 : Int32) (v3 : Int32) (rc : Int32 → Int32 → Option (Int32 × Int32)) (v4 : Int32) (v5 : Int32) : Option (Int32 × Int32) :=
  if (1024 : Int32) ≤ v5 then
    some (v4, v5)
  else
    if (((1024 : Int32) * v3) + v5) < 0 ∨ 16384 ≤ (((1024 : Int32) * v3) + v5).toNatClampNeg then none else
    if (σxx.2.1 31 (((1024 : Int32) * v3) + v5).toNatClampNeg) = 0 then
      rc (v4 + (0 : Int32)) (v5 + 1)
    else
      rc (v4 + (1 : Int32)) (v5 + 1)
def gX11_next_24 (F : Nat) (σxx : ST) (v1 : Int32) (v2 : Int32) (v3 : Int32) : Nat → Int32 → Int32 → Option (Int32 × Int32)
  | 0, _, _ => none
  | n + 1, v4, v5 => gbX11_next_24 F σxx v1 v2 v3 (gX11_next_24 F σxx v1 v2 v3 n) v4 v5
set_option maxHeartbeats 4000000 in
set_option maxRecDepth 100000 in
theorem kX11_next_24 {p : Program} {l : Launch} {e : Env} {s : State} {m : MethodId} {args : Array Value} {below : List Frame} {meth : Method} {c : Code} {A : Nat → Prop} {Q : State → Prop} {G : GP} (K : Cx p s m meth c G cX11_next RX11 6 (some .int) args A) (F : Nat) (xx : Nat → Nat) (σxx : ST) (v1 : Int32) (v2 : Int32) (v3 : Int32) {z : Int32 × Int32} (kk : ∀ (H : Heap) (locs : List Loc) (ls : Array Slot), va_P G.1 vwCl (List.flatten [wX G xx σxx]) H → va_D A (List.flatten [wX G xx σxx]) → va_S A s.heap H locs → lv_has ls 6 [(0, .ref (xx 0)), (1, .int v1), (2, .int v2), (3, .int v3), (4, .int z.1), (5, .int z.2)] → W p l e (RM 5) s m args below meth c H locs 0 0 Q (F0 m 64 ls [])) :
    ∀ (n : Nat) (v4 : Int32) (v5 : Int32) (H : Heap) (locs : List Loc) (ls : Array Slot), va_P G.1 vwCl (List.flatten [wX G xx σxx]) H → va_D A (List.flatten [wX G xx σxx]) → va_S A s.heap H locs → lv_has ls 6 [(0, .ref (xx 0)), (1, .int v1), (2, .int v2), (3, .int v3), (4, .int v4), (5, .int v5)] → gX11_next_24 F σxx v1 v2 v3 n v4 v5 = some z → W p l e (RM 5) s m args below meth c H locs 0 0 Q (F0 m 24 ls []) := by
  obtain ⟨hx, hb, hr, hml, hts, hown, hlocks, hA, hG⟩ := id K
  intro n
  induction n with
  | zero =>
    intro v4 v5 H locs ls hP hD hS hl h
    have h : none = some z := h
    cases h
  | succ n ih =>
    intro v4 v5 H locs ls hP hD hS hl h
    have h : gbX11_next_24 F σxx v1 v2 v3 (gX11_next_24 F σxx v1 v2 v3 n) v4 v5 = some z := h
    unfold gbX11_next_24 at h
    refine lv_iload hx hb dX11_next_24 (lv_at hl 5 rfl) ?_
    refine lv_sipush (v := 1024) hx hb dX11_next_26 lh_1024 ?_
    refine lv_icmp_ge (tgt := 64) hx hb dX11_next_29 (by decide) (fun c4 => ?_) (fun c4 => ?_)
    · have h := if_t c4 h
      cases h
      exact kk _ _ _ hP hD hS (lv_sub hl [0, 1, 2, 3, 4, 5] rfl)
    · have h := if_f c4 h
      refine lv_iload hx hb dX11_next_32 (lv_at hl 4 rfl) ?_
      refine lv_aload_n hx hb dX11_next_34 rfl (lv_at hl 0 rfl) ?_
      refine va_get (D := G.1) (cl := vwCl) (tys := tysG G) (ci := 11) (v := .ref (xx 32)) (C := RX11) (T := TX11) (N := 37) hx hb hts iX11 hown hG.1 hP 0 rfl rfl 31 (Nat.le_of_ble_eq_true rfl) (hts _ tw_4_128) (fun _ h9 => h9) rfl dX11_next_35 ?_
      refine lv_sipush (v := 1024) hx hb dX11_next_38 lh_1024 ?_
      refine lv_iload_n hx hb dX11_next_41 rfl (lv_at hl 3 rfl) ?_
      refine lv_imul hx hb dX11_next_42 ?_
      refine lv_iload hx hb dX11_next_43 (lv_at hl 5 rfl) ?_
      refine lv_iadd hx hb dX11_next_45 ?_
      obtain ⟨ck5, h⟩ := ck h
      refine va_zald hx hb hG.1 hP 15 2 rfl rfl ck5 dX11_next_46 ?_
      refine lv_if_eq (tgt := 54) hx hb dX11_next_47 (by decide) (fun c6 => ?_) (fun c6 => ?_)
      · have h := if_t c6 h
        refine lv_iconst (v := 0) hx hb dX11_next_54 li_0 ?_
        refine lv_iadd hx hb dX11_next_55 ?_
        refine lv_istore (lv' := [(4, .int (v4 + (0 : Int32))), (0, .ref (xx 0)), (1, .int v1), (2, .int v2), (3, .int v3), (5, .int v5)]) hx hb dX11_next_56 hl (Nat.le_of_ble_eq_true rfl) rfl (fun ls hl => ?_)
        refine lv_iinc (v := v5 + 1) (lv' := [(5, .int (v5 + 1)), (4, .int (v4 + (0 : Int32))), (0, .ref (xx 0)), (1, .int v1), (2, .int v2), (3, .int v3)]) hx hb dX11_next_58 hl (k := 5) rfl (by rw [li_1]) (Nat.le_of_ble_eq_true rfl) rfl (fun ls hl => ?_)
        refine lv_goto (tgt := 24) hx hb dX11_next_61 (by decide) ?_
        exact ih (v4 + (0 : Int32)) (v5 + 1) _ _ _ hP hD hS (lv_sub hl [2, 3, 4, 5, 1, 0] rfl) h
      · have h := if_f c6 h
        refine lv_iconst (v := 1) hx hb dX11_next_50 li_1 ?_
        refine lv_goto (tgt := 55) hx hb dX11_next_51 (by decide) ?_
        refine lv_iadd hx hb dX11_next_55 ?_
        refine lv_istore (lv' := [(4, .int (v4 + (1 : Int32))), (0, .ref (xx 0)), (1, .int v1), (2, .int v2), (3, .int v3), (5, .int v5)]) hx hb dX11_next_56 hl (Nat.le_of_ble_eq_true rfl) rfl (fun ls hl => ?_)
        refine lv_iinc (v := v5 + 1) (lv' := [(5, .int (v5 + 1)), (4, .int (v4 + (1 : Int32))), (0, .ref (xx 0)), (1, .int v1), (2, .int v2), (3, .int v3)]) hx hb dX11_next_58 hl (k := 5) rfl (by rw [li_1]) (Nat.le_of_ble_eq_true rfl) rfl (fun ls hl => ?_)
        refine lv_goto (tgt := 24) hx hb dX11_next_61 (by decide) ?_
        exact ih (v4 + (1 : Int32)) (v5 + 1) _ _ _ hP hD hS (lv_sub hl [2, 3, 4, 5, 1, 0] rfl) h
def gbX11_next_12 (F : Nat) (σxx : ST) (rc : Int32 → Int32 → Int32 → Option (Int32 × Int32 × Int32)) (v1 : Int32) (v2 : Int32) (v3 : Int32) : Option (Int32 × Int32 × Int32) :=
  if (16 : Int32) ≤ v3 then
    some (v1, v2, v3)
  else
    (gX11_next_24 F σxx v1 v2 v3 F (0 : Int32) (0 : Int32)).bind fun z7 =>
      if z7.1 ≤ v2 then
        if z7.1 ≤ v2 then
          rc v1 v2 (v3 + 1)
        else
          rc v1 z7.1 (v3 + 1)
      else
        if z7.1 ≤ v2 then
          rc v3 v2 (v3 + 1)
        else
          rc v3 z7.1 (v3 + 1)
def gX11_next_12 (F : Nat) (σxx : ST) : Nat → Int32 → Int32 → Int32 → Option (Int32 × Int32 × Int32)
  | 0, _, _, _ => none
  | n + 1, v1, v2, v3 => gbX11_next_12 F σxx (gX11_next_12 F σxx n) v1 v2 v3
set_option maxHeartbeats 4000000 in
set_option maxRecDepth 100000 in
theorem kX11_next_12 {p : Program} {l : Launch} {e : Env} {s : State} {m : MethodId} {args : Array Value} {below : List Frame} {meth : Method} {c : Code} {A : Nat → Prop} {Q : State → Prop} {G : GP} (K : Cx p s m meth c G cX11_next RX11 6 (some .int) args A) (F : Nat) (xx : Nat → Nat) (σxx : ST) {z : Int32 × Int32 × Int32} (kk : ∀ (H : Heap) (locs : List Loc) (ls : Array Slot), va_P G.1 vwCl (List.flatten [wX G xx σxx]) H → va_D A (List.flatten [wX G xx σxx]) → va_S A s.heap H locs → lv_has ls 6 [(0, .ref (xx 0)), (1, .int z.1), (2, .int z.2.1), (3, .int z.2.2)] → W p l e (RM 5) s m args below meth c H locs 0 0 Q (F0 m 95 ls [])) :
    ∀ (n : Nat) (v1 : Int32) (v2 : Int32) (v3 : Int32) (H : Heap) (locs : List Loc) (ls : Array Slot), va_P G.1 vwCl (List.flatten [wX G xx σxx]) H → va_D A (List.flatten [wX G xx σxx]) → va_S A s.heap H locs → lv_has ls 6 [(0, .ref (xx 0)), (1, .int v1), (2, .int v2), (3, .int v3)] → gX11_next_12 F σxx n v1 v2 v3 = some z → W p l e (RM 5) s m args below meth c H locs 0 0 Q (F0 m 12 ls []) := by
  obtain ⟨hx, hb, hr, hml, hts, hown, hlocks, hA, hG⟩ := id K
  intro n
  induction n with
  | zero =>
    intro v1 v2 v3 H locs ls hP hD hS hl h
    have h : none = some z := h
    cases h
  | succ n ih =>
    intro v1 v2 v3 H locs ls hP hD hS hl h
    have h : gbX11_next_12 F σxx (gX11_next_12 F σxx n) v1 v2 v3 = some z := h
    unfold gbX11_next_12 at h
    refine lv_iload_n hx hb dX11_next_12 rfl (lv_at hl 3 rfl) ?_
    refine lv_bipush (v := 16) hx hb dX11_next_13 lb_16 ?_
    refine lv_icmp_ge (tgt := 95) hx hb dX11_next_15 (by decide) (fun c3 => ?_) (fun c3 => ?_)
    · have h := if_t c3 h
      cases h
      exact kk _ _ _ hP hD hS (lv_sub hl [0, 1, 2, 3] rfl)
    · have h := if_f c3 h
      refine lv_iconst (v := 0) hx hb dX11_next_18 li_0 ?_
      refine lv_istore (lv' := [(4, .int (0 : Int32)), (0, .ref (xx 0)), (1, .int v1), (2, .int v2), (3, .int v3)]) hx hb dX11_next_19 hl (Nat.le_of_ble_eq_true rfl) rfl (fun ls hl => ?_)
      refine lv_iconst (v := 0) hx hb dX11_next_21 li_0 ?_
      refine lv_istore (lv' := [(5, .int (0 : Int32)), (4, .int (0 : Int32)), (0, .ref (xx 0)), (1, .int v1), (2, .int v2), (3, .int v3)]) hx hb dX11_next_22 hl (Nat.le_of_ble_eq_true rfl) rfl (fun ls hl => ?_)
      obtain ⟨z7, hz8, h⟩ := bd_ex h
      refine kX11_next_24 K F xx σxx v1 v2 v3 (fun H locs ls hP hD hS hl => ?_) F (0 : Int32) (0 : Int32) _ _ _ hP hD hS (lv_sub hl [2, 3, 4, 5, 1, 0] rfl) hz8
      refine lv_iload hx hb dX11_next_64 (lv_at hl 4 rfl) ?_
      refine lv_iload_n hx hb dX11_next_66 rfl (lv_at hl 2 rfl) ?_
      refine lv_icmp_le (tgt := 74) hx hb dX11_next_67 (by decide) (fun c9 => ?_) (fun c9 => ?_)
      · have h := if_t c9 h
        refine lv_iload_n hx hb dX11_next_74 rfl (lv_at hl 1 rfl) ?_
        refine lv_istore_n (lv' := [(1, .int v1), (0, .ref (xx 0)), (2, .int v2), (3, .int v3), (4, .int z7.1), (5, .int z7.2)]) hx hb dX11_next_75 rfl hl (Nat.le_of_ble_eq_true rfl) rfl (fun ls hl => ?_)
        refine lv_iload hx hb dX11_next_76 (lv_at hl 4 rfl) ?_
        refine lv_iload_n hx hb dX11_next_78 rfl (lv_at hl 2 rfl) ?_
        refine lv_icmp_le (tgt := 87) hx hb dX11_next_79 (by decide) (fun c10 => ?_) (fun c10 => ?_)
        · have h := if_t c10 h
          refine lv_iload_n hx hb dX11_next_87 rfl (lv_at hl 2 rfl) ?_
          refine lv_istore_n (lv' := [(2, .int v2), (1, .int v1), (0, .ref (xx 0)), (3, .int v3), (4, .int z7.1), (5, .int z7.2)]) hx hb dX11_next_88 rfl hl (Nat.le_of_ble_eq_true rfl) rfl (fun ls hl => ?_)
          refine lv_iinc (v := v3 + 1) (lv' := [(3, .int (v3 + 1)), (2, .int v2), (1, .int v1), (0, .ref (xx 0)), (4, .int z7.1), (5, .int z7.2)]) hx hb dX11_next_89 hl (k := 3) rfl (by rw [li_1]) (Nat.le_of_ble_eq_true rfl) rfl (fun ls hl => ?_)
          refine lv_goto (tgt := 12) hx hb dX11_next_92 (by decide) ?_
          exact ih v1 v2 (v3 + 1) _ _ _ hP hD hS (lv_sub hl [3, 2, 1, 0] rfl) h
        · have h := if_f c10 h
          refine lv_iload hx hb dX11_next_82 (lv_at hl 4 rfl) ?_
          refine lv_goto (tgt := 88) hx hb dX11_next_84 (by decide) ?_
          refine lv_istore_n (lv' := [(2, .int z7.1), (1, .int v1), (0, .ref (xx 0)), (3, .int v3), (4, .int z7.1), (5, .int z7.2)]) hx hb dX11_next_88 rfl hl (Nat.le_of_ble_eq_true rfl) rfl (fun ls hl => ?_)
          refine lv_iinc (v := v3 + 1) (lv' := [(3, .int (v3 + 1)), (2, .int z7.1), (1, .int v1), (0, .ref (xx 0)), (4, .int z7.1), (5, .int z7.2)]) hx hb dX11_next_89 hl (k := 3) rfl (by rw [li_1]) (Nat.le_of_ble_eq_true rfl) rfl (fun ls hl => ?_)
          refine lv_goto (tgt := 12) hx hb dX11_next_92 (by decide) ?_
          exact ih v1 z7.1 (v3 + 1) _ _ _ hP hD hS (lv_sub hl [3, 2, 1, 0] rfl) h
      · have h := if_f c9 h
        refine lv_iload_n hx hb dX11_next_70 rfl (lv_at hl 3 rfl) ?_
        refine lv_goto (tgt := 75) hx hb dX11_next_71 (by decide) ?_
        refine lv_istore_n (lv' := [(1, .int v3), (0, .ref (xx 0)), (2, .int v2), (3, .int v3), (4, .int z7.1), (5, .int z7.2)]) hx hb dX11_next_75 rfl hl (Nat.le_of_ble_eq_true rfl) rfl (fun ls hl => ?_)
        refine lv_iload hx hb dX11_next_76 (lv_at hl 4 rfl) ?_
        refine lv_iload_n hx hb dX11_next_78 rfl (lv_at hl 2 rfl) ?_
        refine lv_icmp_le (tgt := 87) hx hb dX11_next_79 (by decide) (fun c11 => ?_) (fun c11 => ?_)
        · have h := if_t c11 h
          refine lv_iload_n hx hb dX11_next_87 rfl (lv_at hl 2 rfl) ?_
          refine lv_istore_n (lv' := [(2, .int v2), (1, .int v3), (0, .ref (xx 0)), (3, .int v3), (4, .int z7.1), (5, .int z7.2)]) hx hb dX11_next_88 rfl hl (Nat.le_of_ble_eq_true rfl) rfl (fun ls hl => ?_)
          refine lv_iinc (v := v3 + 1) (lv' := [(3, .int (v3 + 1)), (2, .int v2), (1, .int v3), (0, .ref (xx 0)), (4, .int z7.1), (5, .int z7.2)]) hx hb dX11_next_89 hl (k := 3) rfl (by rw [li_1]) (Nat.le_of_ble_eq_true rfl) rfl (fun ls hl => ?_)
          refine lv_goto (tgt := 12) hx hb dX11_next_92 (by decide) ?_
          exact ih v3 v2 (v3 + 1) _ _ _ hP hD hS (lv_sub hl [3, 2, 1, 0] rfl) h
        · have h := if_f c11 h
          refine lv_iload hx hb dX11_next_82 (lv_at hl 4 rfl) ?_
          refine lv_goto (tgt := 88) hx hb dX11_next_84 (by decide) ?_
          refine lv_istore_n (lv' := [(2, .int z7.1), (1, .int v3), (0, .ref (xx 0)), (3, .int v3), (4, .int z7.1), (5, .int z7.2)]) hx hb dX11_next_88 rfl hl (Nat.le_of_ble_eq_true rfl) rfl (fun ls hl => ?_)
          refine lv_iinc (v := v3 + 1) (lv' := [(3, .int (v3 + 1)), (2, .int z7.1), (1, .int v3), (0, .ref (xx 0)), (4, .int z7.1), (5, .int z7.2)]) hx hb dX11_next_89 hl (k := 3) rfl (by rw [li_1]) (Nat.le_of_ble_eq_true rfl) rfl (fun ls hl => ?_)
          refine lv_goto (tgt := 12) hx hb dX11_next_92 (by decide) ?_
          exact ih v3 z7.1 (v3 + 1) _ _ _ hP hD hS (lv_sub hl [3, 2, 1, 0] rfl) h
def fX11_next (F : Nat) (σxx : ST)  : Option (Int32 × ST) :=
  (fX11_layFits F σxx (1 : Int32)).bind fun r1 =>
  (gX11_next_12 F r1 F (-9 : Int32) (0 : Int32) (0 : Int32)).bind fun z12 =>
    some (z12.1, r1)
theorem cdX11_next : CallD yX11_next 0 := by decide +kernel
set_option maxHeartbeats 4000000 in
set_option maxRecDepth 100000 in
theorem mX11_next (l : Launch) (G : GP) (F : Nat) (xx : Nat → Nat) (σxx : ST)  {r : Int32 × ST} (h : fX11_next F σxx  = some r) : CC l G yX11_next cX11_next 6 (some .int) 5 [.ref (xx 0)] (List.flatten [wX G xx σxx]) (List.flatten [wX G xx r.2]) (some (.int r.1)) := by
  refine CC.of (by decide) (Nat.le_of_ble_eq_true rfl) ?_
  intro p e s m below meth c A K hP hD hS ls hl
  obtain ⟨hx, hb, hr, hml, hts, hown, hlocks, hA, hG⟩ := id K
  have hl : lv_has ls 6 [(0, .ref (xx 0))] := hl
  unfold fX11_next at h
  refine lv_aload_n hx hb dX11_next_0 rfl (lv_at hl 0 rfl) ?_
  refine lv_iconst (v := 1) hx hb dX11_next_1 li_1 ?_
  obtain ⟨r1, hc2, h⟩ := bd_ex h
  refine sl_V (q0 := 0) (ci := 11) (C := RX11) K (mX11_layFits l G F xx σxx (1 : Int32) hc2) tw_5_168 tw_1_12 tw_5_167 tw_0_18 tw_5_165 cdX11_layFits ⟨Nat.le_of_ble_eq_true rfl, Nat.le_of_ble_eq_true rfl⟩ hP hD hS [0] rfl rfl rfl rfl rfl rfl rfl hl.1 (Nat.le_of_ble_eq_true rfl) ⟨Nat.zero_le _, Nat.zero_le _⟩ dX11_next_2 (fun H locs hP hD hS => ?_)
  have hP : va_P G.1 vwCl (List.flatten [wX G xx r1]) H := hP
  have hD : va_D A (List.flatten [wX G xx r1]) := hD
  refine lv_bipush (v := -9) hx hb dX11_next_5 lb_m9 ?_
  refine lv_istore_n (lv' := [(1, .int (-9 : Int32)), (0, .ref (xx 0))]) hx hb dX11_next_7 rfl hl (Nat.le_of_ble_eq_true rfl) rfl (fun ls hl => ?_)
  refine lv_iconst (v := 0) hx hb dX11_next_8 li_0 ?_
  refine lv_istore_n (lv' := [(2, .int (0 : Int32)), (1, .int (-9 : Int32)), (0, .ref (xx 0))]) hx hb dX11_next_9 rfl hl (Nat.le_of_ble_eq_true rfl) rfl (fun ls hl => ?_)
  refine lv_iconst (v := 0) hx hb dX11_next_10 li_0 ?_
  refine lv_istore_n (lv' := [(3, .int (0 : Int32)), (2, .int (0 : Int32)), (1, .int (-9 : Int32)), (0, .ref (xx 0))]) hx hb dX11_next_11 rfl hl (Nat.le_of_ble_eq_true rfl) rfl (fun ls hl => ?_)
  obtain ⟨z12, hz13, h⟩ := bd_ex h
  refine kX11_next_12 K F xx r1 (fun H locs ls hP hD hS hl => ?_) F (-9 : Int32) (0 : Int32) (0 : Int32) _ _ _ hP hD hS (lv_sub hl [3, 2, 1, 0] rfl) hz13
  refine lv_iload_n hx hb dX11_next_95 rfl (lv_at hl 1 rfl) ?_
  cases h
  exact rt_i K hP hD hS dX11_next_96
def gbX11_keep_21 (F : Nat) (v1 : Int32) (rc : Int32 → ST → Option (Int32 × ST)) (v2 : Int32) (σxx : ST) : Option (Int32 × ST) :=
  if (24 : Int32) ≤ v2 then
    some (v2, σxx)
  else
    if v2 < 0 ∨ 24 ≤ v2.toNatClampNeg then none else
    if (((25 : Int32) * v1) + v2) < 0 ∨ 50 ≤ (((25 : Int32) * v1) + v2).toNatClampNeg then none else
    nm (sA σxx 33 (((25 : Int32) * v1) + v2).toNatClampNeg (σxx.2.1 7 v2.toNatClampNeg)) fun (s10 : ST) =>
    rc (v2 + 1) s10
def gX11_keep_21 (F : Nat) (v1 : Int32) : Nat → Int32 → ST → Option (Int32 × ST)
  | 0, _, _ => none
  | n + 1, v2, σxx => gbX11_keep_21 F v1 (gX11_keep_21 F v1 n) v2 σxx
set_option maxHeartbeats 4000000 in
set_option maxRecDepth 100000 in
theorem kX11_keep_21 {p : Program} {l : Launch} {e : Env} {s : State} {m : MethodId} {args : Array Value} {below : List Frame} {meth : Method} {c : Code} {A : Nat → Prop} {Q : State → Prop} {G : GP} (K : Cx p s m meth c G cX11_keep RX11 3 (some .int) args A) (F : Nat) (xx : Nat → Nat) (v1 : Int32) {z : Int32 × ST} (kk : ∀ (H : Heap) (locs : List Loc) (ls : Array Slot), va_P G.1 vwCl (List.flatten [wX G xx z.2]) H → va_D A (List.flatten [wX G xx z.2]) → va_S A s.heap H locs → lv_has ls 3 [(0, .ref (xx 0)), (1, .int v1), (2, .int z.1)] → W p l e (RM 2) s m args below meth c H locs 0 0 Q (F0 m 50 ls [])) :
    ∀ (n : Nat) (v2 : Int32) (σxx : ST) (H : Heap) (locs : List Loc) (ls : Array Slot), va_P G.1 vwCl (List.flatten [wX G xx σxx]) H → va_D A (List.flatten [wX G xx σxx]) → va_S A s.heap H locs → lv_has ls 3 [(0, .ref (xx 0)), (1, .int v1), (2, .int v2)] → gX11_keep_21 F v1 n v2 σxx = some z → W p l e (RM 2) s m args below meth c H locs 0 0 Q (F0 m 21 ls []) := by
  obtain ⟨hx, hb, hr, hml, hts, hown, hlocks, hA, hG⟩ := id K
  intro n
  induction n with
  | zero =>
    intro v2 σxx H locs ls hP hD hS hl h
    have h : none = some z := h
    cases h
  | succ n ih =>
    intro v2 σxx H locs ls hP hD hS hl h
    have h : gbX11_keep_21 F v1 (gX11_keep_21 F v1 n) v2 σxx = some z := h
    unfold gbX11_keep_21 at h
    refine lv_iload_n hx hb dX11_keep_21 rfl (lv_at hl 2 rfl) ?_
    refine lv_bipush (v := 24) hx hb dX11_keep_22 lb_24 ?_
    refine lv_icmp_ge (tgt := 50) hx hb dX11_keep_24 (by decide) (fun c7 => ?_) (fun c7 => ?_)
    · have h := if_t c7 h
      cases h
      exact kk _ _ _ hP hD hS (lv_sub hl [0, 1, 2] rfl)
    · have h := if_f c7 h
      refine lv_aload_n hx hb dX11_keep_27 rfl (lv_at hl 0 rfl) ?_
      refine va_get (D := G.1) (cl := vwCl) (tys := tysG G) (ci := 11) (v := .ref (xx 34)) (C := RX11) (T := TX11) (N := 37) hx hb hts iX11 hown hG.1 hP 0 rfl rfl 33 (Nat.le_of_ble_eq_true rfl) (hts _ tw_4_130) (fun _ h9 => h9) rfl dX11_keep_28 ?_
      refine lv_bipush (v := 25) hx hb dX11_keep_31 lb_25 ?_
      refine lv_iload_n hx hb dX11_keep_33 rfl (lv_at hl 1 rfl) ?_
      refine lv_imul hx hb dX11_keep_34 ?_
      refine lv_iload_n hx hb dX11_keep_35 rfl (lv_at hl 2 rfl) ?_
      refine lv_iadd hx hb dX11_keep_36 ?_
      refine lv_aload_n hx hb dX11_keep_37 rfl (lv_at hl 0 rfl) ?_
      refine va_get (D := G.1) (cl := vwCl) (tys := tysG G) (ci := 11) (v := .ref (xx 8)) (C := RX11) (T := TX11) (N := 37) hx hb hts iX11 hown hG.1 hP 0 rfl rfl 7 (Nat.le_of_ble_eq_true rfl) (hts _ tw_4_104) (fun _ h9 => h9) rfl dX11_keep_38 ?_
      refine lv_iload_n hx hb dX11_keep_41 rfl (lv_at hl 2 rfl) ?_
      obtain ⟨ck8, h⟩ := ck h
      refine va_iald hx hb hG.1 hP 5 0 rfl rfl ck8 dX11_keep_42 ?_
      obtain ⟨ck9, h⟩ := ck h
      obtain ⟨s10, e11, h⟩ := nm_ex h
      refine va_iast hx hb hG.1 hP hD hS 17 0 rfl rfl ck9 dX11_keep_43 (fun H locs hP hD hS => ?_)
      have hP : va_P G.1 vwCl (List.flatten [wX G xx s10]) H := by rw [e11]; exact hP
      have hD : va_D A (List.flatten [wX G xx s10]) := by rw [e11]; exact hD
      refine lv_iinc (v := v2 + 1) (lv' := [(2, .int (v2 + 1)), (0, .ref (xx 0)), (1, .int v1)]) hx hb dX11_keep_44 hl (k := 2) rfl (by rw [li_1]) (Nat.le_of_ble_eq_true rfl) rfl (fun ls hl => ?_)
      refine lv_goto (tgt := 21) hx hb dX11_keep_47 (by decide) ?_
      exact ih (v2 + 1) s10 _ _ _ hP hD hS (lv_sub hl [1, 2, 0] rfl) h
def gbX11_keep_68 (F : Nat) (v1 : Int32) (rc : Int32 → ST → Option (Int32 × ST)) (v2 : Int32) (σxx : ST) : Option (Int32 × ST) :=
  if (6 : Int32) ≤ v2 then
    some (v2, σxx)
  else
    if v2 < 0 ∨ 6 ≤ v2.toNatClampNeg then none else
    if (((6 : Int32) * v1) + v2) < 0 ∨ 12 ≤ (((6 : Int32) * v1) + v2).toNatClampNeg then none else
    nm (sA σxx 34 (((6 : Int32) * v1) + v2).toNatClampNeg (σxx.2.1 24 v2.toNatClampNeg)) fun (s20 : ST) =>
    nm (sA s20 35 (((6 : Int32) * v1) + v2).toNatClampNeg (s20.2.1 25 v2.toNatClampNeg)) fun (s22 : ST) =>
    rc (v2 + 1) s22
def gX11_keep_68 (F : Nat) (v1 : Int32) : Nat → Int32 → ST → Option (Int32 × ST)
  | 0, _, _ => none
  | n + 1, v2, σxx => gbX11_keep_68 F v1 (gX11_keep_68 F v1 n) v2 σxx
set_option maxHeartbeats 4000000 in
set_option maxRecDepth 100000 in
theorem kX11_keep_68 {p : Program} {l : Launch} {e : Env} {s : State} {m : MethodId} {args : Array Value} {below : List Frame} {meth : Method} {c : Code} {A : Nat → Prop} {Q : State → Prop} {G : GP} (K : Cx p s m meth c G cX11_keep RX11 3 (some .int) args A) (F : Nat) (xx : Nat → Nat) (v1 : Int32) {z : Int32 × ST} (kk : ∀ (H : Heap) (locs : List Loc) (ls : Array Slot), va_P G.1 vwCl (List.flatten [wX G xx z.2]) H → va_D A (List.flatten [wX G xx z.2]) → va_S A s.heap H locs → lv_has ls 3 [(0, .ref (xx 0)), (1, .int v1), (2, .int z.1)] → W p l e (RM 2) s m args below meth c H locs 0 0 Q (F0 m 114 ls [])) :
    ∀ (n : Nat) (v2 : Int32) (σxx : ST) (H : Heap) (locs : List Loc) (ls : Array Slot), va_P G.1 vwCl (List.flatten [wX G xx σxx]) H → va_D A (List.flatten [wX G xx σxx]) → va_S A s.heap H locs → lv_has ls 3 [(0, .ref (xx 0)), (1, .int v1), (2, .int v2)] → gX11_keep_68 F v1 n v2 σxx = some z → W p l e (RM 2) s m args below meth c H locs 0 0 Q (F0 m 68 ls []) := by
  obtain ⟨hx, hb, hr, hml, hts, hown, hlocks, hA, hG⟩ := id K
  intro n
  induction n with
  | zero =>
    intro v2 σxx H locs ls hP hD hS hl h
    have h : none = some z := h
    cases h
  | succ n ih =>
    intro v2 σxx H locs ls hP hD hS hl h
    have h : gbX11_keep_68 F v1 (gX11_keep_68 F v1 n) v2 σxx = some z := h
    unfold gbX11_keep_68 at h
    refine lv_iload_n hx hb dX11_keep_68 rfl (lv_at hl 2 rfl) ?_
    refine lv_bipush (v := 6) hx hb dX11_keep_69 lb_6 ?_
    refine lv_icmp_ge (tgt := 114) hx hb dX11_keep_71 (by decide) (fun c17 => ?_) (fun c17 => ?_)
    · have h := if_t c17 h
      cases h
      exact kk _ _ _ hP hD hS (lv_sub hl [0, 1, 2] rfl)
    · have h := if_f c17 h
      refine lv_aload_n hx hb dX11_keep_74 rfl (lv_at hl 0 rfl) ?_
      refine va_get (D := G.1) (cl := vwCl) (tys := tysG G) (ci := 11) (v := .ref (xx 35)) (C := RX11) (T := TX11) (N := 37) hx hb hts iX11 hown hG.1 hP 0 rfl rfl 34 (Nat.le_of_ble_eq_true rfl) (hts _ tw_4_131) (fun _ h9 => h9) rfl dX11_keep_75 ?_
      refine lv_bipush (v := 6) hx hb dX11_keep_78 lb_6 ?_
      refine lv_iload_n hx hb dX11_keep_80 rfl (lv_at hl 1 rfl) ?_
      refine lv_imul hx hb dX11_keep_81 ?_
      refine lv_iload_n hx hb dX11_keep_82 rfl (lv_at hl 2 rfl) ?_
      refine lv_iadd hx hb dX11_keep_83 ?_
      refine lv_aload_n hx hb dX11_keep_84 rfl (lv_at hl 0 rfl) ?_
      refine va_get (D := G.1) (cl := vwCl) (tys := tysG G) (ci := 11) (v := .ref (xx 25)) (C := RX11) (T := TX11) (N := 37) hx hb hts iX11 hown hG.1 hP 0 rfl rfl 24 (Nat.le_of_ble_eq_true rfl) (hts _ tw_4_121) (fun _ h9 => h9) rfl dX11_keep_85 ?_
      refine lv_iload_n hx hb dX11_keep_88 rfl (lv_at hl 2 rfl) ?_
      obtain ⟨ck18, h⟩ := ck h
      refine va_iald hx hb hG.1 hP 12 0 rfl rfl ck18 dX11_keep_89 ?_
      obtain ⟨ck19, h⟩ := ck h
      obtain ⟨s20, e21, h⟩ := nm_ex h
      refine va_iast hx hb hG.1 hP hD hS 18 0 rfl rfl ck19 dX11_keep_90 (fun H locs hP hD hS => ?_)
      have hP : va_P G.1 vwCl (List.flatten [wX G xx s20]) H := by rw [e21]; exact hP
      have hD : va_D A (List.flatten [wX G xx s20]) := by rw [e21]; exact hD
      refine lv_aload_n hx hb dX11_keep_91 rfl (lv_at hl 0 rfl) ?_
      refine va_get (D := G.1) (cl := vwCl) (tys := tysG G) (ci := 11) (v := .ref (xx 36)) (C := RX11) (T := TX11) (N := 37) hx hb hts iX11 hown hG.1 hP 0 rfl rfl 35 (Nat.le_of_ble_eq_true rfl) (hts _ tw_4_132) (fun _ h9 => h9) rfl dX11_keep_92 ?_
      refine lv_bipush (v := 6) hx hb dX11_keep_95 lb_6 ?_
      refine lv_iload_n hx hb dX11_keep_97 rfl (lv_at hl 1 rfl) ?_
      refine lv_imul hx hb dX11_keep_98 ?_
      refine lv_iload_n hx hb dX11_keep_99 rfl (lv_at hl 2 rfl) ?_
      refine lv_iadd hx hb dX11_keep_100 ?_
      refine lv_aload_n hx hb dX11_keep_101 rfl (lv_at hl 0 rfl) ?_
      refine va_get (D := G.1) (cl := vwCl) (tys := tysG G) (ci := 11) (v := .ref (xx 26)) (C := RX11) (T := TX11) (N := 37) hx hb hts iX11 hown hG.1 hP 0 rfl rfl 25 (Nat.le_of_ble_eq_true rfl) (hts _ tw_4_122) (fun _ h9 => h9) rfl dX11_keep_102 ?_
      refine lv_iload_n hx hb dX11_keep_105 rfl (lv_at hl 2 rfl) ?_
      refine va_iald hx hb hG.1 hP 13 0 rfl rfl ck18 dX11_keep_106 ?_
      obtain ⟨s22, e23, h⟩ := nm_ex h
      refine va_iast hx hb hG.1 hP hD hS 19 0 rfl rfl ck19 dX11_keep_107 (fun H locs hP hD hS => ?_)
      have hP : va_P G.1 vwCl (List.flatten [wX G xx s22]) H := by rw [e23]; exact hP
      have hD : va_D A (List.flatten [wX G xx s22]) := by rw [e23]; exact hD
      refine lv_iinc (v := v2 + 1) (lv' := [(2, .int (v2 + 1)), (0, .ref (xx 0)), (1, .int v1)]) hx hb dX11_keep_108 hl (k := 2) rfl (by rw [li_1]) (Nat.le_of_ble_eq_true rfl) rfl (fun ls hl => ?_)
      refine lv_goto (tgt := 68) hx hb dX11_keep_111 (by decide) ?_
      exact ih (v2 + 1) s22 _ _ _ hP hD hS (lv_sub hl [1, 2, 0] rfl) h
def fX11_keep (F : Nat) (σxx : ST) (x1 : Int32) : Option (Int32 × ST) :=
  (fX11_in F x1.toInt64 (0 : Int64) (1 : Int64)).bind fun r1 =>
  if r1 = 0 then
    some ((-1 : Int32), σxx)
  else
    if x1 < 0 ∨ 2 ≤ x1.toNatClampNeg then none else
    nm (sA σxx 32 x1.toNatClampNeg (vp_nar .boolean (1 : Int32))) fun (s5 : ST) =>
    (gX11_keep_21 F x1 F (0 : Int32) s5).bind fun z12 =>
      if (((25 : Int32) * x1) + (24 : Int32)) < 0 ∨ 50 ≤ (((25 : Int32) * x1) + (24 : Int32)).toNatClampNeg then none else
      nm (sA z12.2 33 (((25 : Int32) * x1) + (24 : Int32)).toNatClampNeg (z12.2.1 11)) fun (s15 : ST) =>
      (gX11_keep_68 F x1 F (0 : Int32) s15).bind fun z24 =>
        nm (sA z24.2 36 x1.toNatClampNeg (z24.2.1 23)) fun (s26 : ST) =>
        some (s26.1 11, s26)
theorem cdX11_keep : CallD yX11_keep 1 := by decide +kernel
set_option maxHeartbeats 4000000 in
set_option maxRecDepth 100000 in
theorem mX11_keep (l : Launch) (G : GP) (F : Nat) (xx : Nat → Nat) (σxx : ST) (x1 : Int32) {r : Int32 × ST} (h : fX11_keep F σxx x1 = some r) : CC l G yX11_keep cX11_keep 3 (some .int) 2 [.ref (xx 0), .int x1] (List.flatten [wX G xx σxx]) (List.flatten [wX G xx r.2]) (some (.int r.1)) := by
  refine CC.of (by decide) (Nat.le_of_ble_eq_true rfl) ?_
  intro p e s m below meth c A K hP hD hS ls hl
  obtain ⟨hx, hb, hr, hml, hts, hown, hlocks, hA, hG⟩ := id K
  have hl : lv_has ls 3 [(0, .ref (xx 0)), (1, .int x1)] := hl
  unfold fX11_keep at h
  refine lv_iload_n hx hb dX11_keep_0 rfl (lv_at hl 1 rfl) ?_
  refine lv_i2l (v := x1.toInt64) hx hb dX11_keep_1 rfl ?_
  refine lv_lconst (v := 0) hx hb dX11_keep_2 ll_0 ?_
  refine lv_lconst (v := 1) hx hb dX11_keep_3 ll_1 ?_
  obtain ⟨r1, hc2, h⟩ := bd_ex h
  refine sl_S K (mX11_in l G F x1.toInt64 (0 : Int64) (1 : Int64) hc2) tw_4_217 tw_1_12 tw_4_216 tw_4_215 cdX11_in ⟨Nat.le_of_ble_eq_true rfl, Nat.le_of_ble_eq_true rfl⟩ hP hD hS [] rfl rfl rfl rfl hl.1 (Nat.le_of_ble_eq_true rfl) ⟨Nat.zero_le _, Nat.zero_le _⟩ dX11_keep_4 (fun H locs hP hD hS => ?_)
  have hP : va_P G.1 vwCl (List.flatten [wX G xx σxx]) H := hP
  have hD : va_D A (List.flatten [wX G xx σxx]) := hD
  refine lv_if_ne (tgt := 12) hx hb dX11_keep_7 (by decide) (fun c3 => ?_) (fun c3 => ?_)
  · have h := if_f c3 h
    refine lv_aload_n hx hb dX11_keep_12 rfl (lv_at hl 0 rfl) ?_
    refine va_get (D := G.1) (cl := vwCl) (tys := tysG G) (ci := 11) (v := .ref (xx 33)) (C := RX11) (T := TX11) (N := 37) hx hb hts iX11 hown hG.1 hP 0 rfl rfl 32 (Nat.le_of_ble_eq_true rfl) (hts _ tw_4_129) (fun _ h9 => h9) rfl dX11_keep_13 ?_
    refine lv_iload_n hx hb dX11_keep_16 rfl (lv_at hl 1 rfl) ?_
    refine lv_iconst (v := 1) hx hb dX11_keep_17 li_1 ?_
    obtain ⟨ck4, h⟩ := ck h
    obtain ⟨s5, e6, h⟩ := nm_ex h
    refine va_zast hx hb hG.1 hP hD hS 16 2 rfl rfl ck4 dX11_keep_18 (fun H locs hP hD hS => ?_)
    have hP : va_P G.1 vwCl (List.flatten [wX G xx s5]) H := by rw [e6]; exact hP
    have hD : va_D A (List.flatten [wX G xx s5]) := by rw [e6]; exact hD
    refine lv_iconst (v := 0) hx hb dX11_keep_19 li_0 ?_
    refine lv_istore_n (lv' := [(2, .int (0 : Int32)), (0, .ref (xx 0)), (1, .int x1)]) hx hb dX11_keep_20 rfl hl (Nat.le_of_ble_eq_true rfl) rfl (fun ls hl => ?_)
    obtain ⟨z12, hz13, h⟩ := bd_ex h
    refine kX11_keep_21 K F xx x1 (fun H locs ls hP hD hS hl => ?_) F (0 : Int32) s5 _ _ _ hP hD hS (lv_sub hl [1, 2, 0] rfl) hz13
    refine lv_aload_n hx hb dX11_keep_50 rfl (lv_at hl 0 rfl) ?_
    refine va_get (D := G.1) (cl := vwCl) (tys := tysG G) (ci := 11) (v := .ref (xx 34)) (C := RX11) (T := TX11) (N := 37) hx hb hts iX11 hown hG.1 hP 0 rfl rfl 33 (Nat.le_of_ble_eq_true rfl) (hts _ tw_4_130) (fun _ h9 => h9) rfl dX11_keep_51 ?_
    refine lv_bipush (v := 25) hx hb dX11_keep_54 lb_25 ?_
    refine lv_iload_n hx hb dX11_keep_56 rfl (lv_at hl 1 rfl) ?_
    refine lv_imul hx hb dX11_keep_57 ?_
    refine lv_bipush (v := 24) hx hb dX11_keep_58 lb_24 ?_
    refine lv_iadd hx hb dX11_keep_60 ?_
    refine lv_aload_n hx hb dX11_keep_61 rfl (lv_at hl 0 rfl) ?_
    refine va_get (D := G.1) (cl := vwCl) (tys := tysG G) (ci := 11) (v := .int (z12.2.1 11)) (C := RX11) (T := TX11) (N := 37) hx hb hts iX11 hown hG.1 hP 0 rfl rfl 11 (Nat.le_of_ble_eq_true rfl) (hts _ tw_4_108) (fun _ h9 => h9) rfl dX11_keep_62 ?_
    obtain ⟨ck14, h⟩ := ck h
    obtain ⟨s15, e16, h⟩ := nm_ex h
    refine va_iast hx hb hG.1 hP hD hS 17 0 rfl rfl ck14 dX11_keep_65 (fun H locs hP hD hS => ?_)
    have hP : va_P G.1 vwCl (List.flatten [wX G xx s15]) H := by rw [e16]; exact hP
    have hD : va_D A (List.flatten [wX G xx s15]) := by rw [e16]; exact hD
    refine lv_iconst (v := 0) hx hb dX11_keep_66 li_0 ?_
    refine lv_istore_n (lv' := [(2, .int (0 : Int32)), (0, .ref (xx 0)), (1, .int x1)]) hx hb dX11_keep_67 rfl hl (Nat.le_of_ble_eq_true rfl) rfl (fun ls hl => ?_)
    obtain ⟨z24, hz25, h⟩ := bd_ex h
    refine kX11_keep_68 K F xx x1 (fun H locs ls hP hD hS hl => ?_) F (0 : Int32) s15 _ _ _ hP hD hS (lv_sub hl [1, 2, 0] rfl) hz25
    refine lv_aload_n hx hb dX11_keep_114 rfl (lv_at hl 0 rfl) ?_
    refine va_get (D := G.1) (cl := vwCl) (tys := tysG G) (ci := 11) (v := .ref (xx 37)) (C := RX11) (T := TX11) (N := 37) hx hb hts iX11 hown hG.1 hP 0 rfl rfl 36 (Nat.le_of_ble_eq_true rfl) (hts _ tw_4_133) (fun _ h9 => h9) rfl dX11_keep_115 ?_
    refine lv_iload_n hx hb dX11_keep_118 rfl (lv_at hl 1 rfl) ?_
    refine lv_aload_n hx hb dX11_keep_119 rfl (lv_at hl 0 rfl) ?_
    refine va_get (D := G.1) (cl := vwCl) (tys := tysG G) (ci := 11) (v := .int (z24.2.1 23)) (C := RX11) (T := TX11) (N := 37) hx hb hts iX11 hown hG.1 hP 0 rfl rfl 23 (Nat.le_of_ble_eq_true rfl) (hts _ tw_4_120) (fun _ h9 => h9) rfl dX11_keep_120 ?_
    obtain ⟨s26, e27, h⟩ := nm_ex h
    refine va_iast hx hb hG.1 hP hD hS 20 0 rfl rfl ck4 dX11_keep_123 (fun H locs hP hD hS => ?_)
    have hP : va_P G.1 vwCl (List.flatten [wX G xx s26]) H := by rw [e27]; exact hP
    have hD : va_D A (List.flatten [wX G xx s26]) := by rw [e27]; exact hD
    refine lv_aload_n hx hb dX11_keep_124 rfl (lv_at hl 0 rfl) ?_
    refine va_get (D := G.1) (cl := vwCl) (tys := tysG G) (ci := 11) (v := .int (s26.1 11)) (C := RX11) (T := TX11) (N := 37) hx hb hts iX11 hown hG.1 hP 0 rfl rfl 11 (Nat.le_of_ble_eq_true rfl) (hts _ tw_4_108) (fun _ h9 => h9) rfl dX11_keep_125 ?_
    cases h
    exact rt_i K hP hD hS dX11_keep_128
  · have h := if_t c3 h
    refine lv_iconst (v := -1) hx hb dX11_keep_10 li_m1 ?_
    cases h
    exact rt_i K hP hD hS dX11_keep_11
def gbX11_again_26 (F : Nat) (v1 : Int32) (rc : Int32 → ST → Option (Int32 × ST)) (v2 : Int32) (σxx : ST) : Option (Int32 × ST) :=
  if (24 : Int32) ≤ v2 then
    some (v2, σxx)
  else
    if (((25 : Int32) * v1) + v2) < 0 ∨ 50 ≤ (((25 : Int32) * v1) + v2).toNatClampNeg then none else
    if v2 < 0 ∨ 24 ≤ v2.toNatClampNeg then none else
    nm (sA σxx 7 v2.toNatClampNeg (σxx.2.1 33 (((25 : Int32) * v1) + v2).toNatClampNeg)) fun (s9 : ST) =>
    rc (v2 + 1) s9
def gX11_again_26 (F : Nat) (v1 : Int32) : Nat → Int32 → ST → Option (Int32 × ST)
  | 0, _, _ => none
  | n + 1, v2, σxx => gbX11_again_26 F v1 (gX11_again_26 F v1 n) v2 σxx
set_option maxHeartbeats 4000000 in
set_option maxRecDepth 100000 in
theorem kX11_again_26 {p : Program} {l : Launch} {e : Env} {s : State} {m : MethodId} {args : Array Value} {below : List Frame} {meth : Method} {c : Code} {A : Nat → Prop} {Q : State → Prop} {G : GP} (K : Cx p s m meth c G cX11_again RX11 3 (some .int) args A) (F : Nat) (xx : Nat → Nat) (v1 : Int32) {z : Int32 × ST} (kk : ∀ (H : Heap) (locs : List Loc) (ls : Array Slot), va_P G.1 vwCl (List.flatten [wX G xx z.2]) H → va_D A (List.flatten [wX G xx z.2]) → va_S A s.heap H locs → lv_has ls 3 [(0, .ref (xx 0)), (1, .int v1), (2, .int z.1)] → W p l e (RM 2) s m args below meth c H locs 0 0 Q (F0 m 55 ls [])) :
    ∀ (n : Nat) (v2 : Int32) (σxx : ST) (H : Heap) (locs : List Loc) (ls : Array Slot), va_P G.1 vwCl (List.flatten [wX G xx σxx]) H → va_D A (List.flatten [wX G xx σxx]) → va_S A s.heap H locs → lv_has ls 3 [(0, .ref (xx 0)), (1, .int v1), (2, .int v2)] → gX11_again_26 F v1 n v2 σxx = some z → W p l e (RM 2) s m args below meth c H locs 0 0 Q (F0 m 26 ls []) := by
  obtain ⟨hx, hb, hr, hml, hts, hown, hlocks, hA, hG⟩ := id K
  intro n
  induction n with
  | zero =>
    intro v2 σxx H locs ls hP hD hS hl h
    have h : none = some z := h
    cases h
  | succ n ih =>
    intro v2 σxx H locs ls hP hD hS hl h
    have h : gbX11_again_26 F v1 (gX11_again_26 F v1 n) v2 σxx = some z := h
    unfold gbX11_again_26 at h
    refine lv_iload_n hx hb dX11_again_26 rfl (lv_at hl 2 rfl) ?_
    refine lv_bipush (v := 24) hx hb dX11_again_27 lb_24 ?_
    refine lv_icmp_ge (tgt := 55) hx hb dX11_again_29 (by decide) (fun c6 => ?_) (fun c6 => ?_)
    · have h := if_t c6 h
      cases h
      exact kk _ _ _ hP hD hS (lv_sub hl [0, 1, 2] rfl)
    · have h := if_f c6 h
      refine lv_aload_n hx hb dX11_again_32 rfl (lv_at hl 0 rfl) ?_
      refine va_get (D := G.1) (cl := vwCl) (tys := tysG G) (ci := 11) (v := .ref (xx 8)) (C := RX11) (T := TX11) (N := 37) hx hb hts iX11 hown hG.1 hP 0 rfl rfl 7 (Nat.le_of_ble_eq_true rfl) (hts _ tw_4_104) (fun _ h9 => h9) rfl dX11_again_33 ?_
      refine lv_iload_n hx hb dX11_again_36 rfl (lv_at hl 2 rfl) ?_
      refine lv_aload_n hx hb dX11_again_37 rfl (lv_at hl 0 rfl) ?_
      refine va_get (D := G.1) (cl := vwCl) (tys := tysG G) (ci := 11) (v := .ref (xx 34)) (C := RX11) (T := TX11) (N := 37) hx hb hts iX11 hown hG.1 hP 0 rfl rfl 33 (Nat.le_of_ble_eq_true rfl) (hts _ tw_4_130) (fun _ h9 => h9) rfl dX11_again_38 ?_
      refine lv_bipush (v := 25) hx hb dX11_again_41 lb_25 ?_
      refine lv_iload_n hx hb dX11_again_43 rfl (lv_at hl 1 rfl) ?_
      refine lv_imul hx hb dX11_again_44 ?_
      refine lv_iload_n hx hb dX11_again_45 rfl (lv_at hl 2 rfl) ?_
      refine lv_iadd hx hb dX11_again_46 ?_
      obtain ⟨ck7, h⟩ := ck h
      refine va_iald hx hb hG.1 hP 17 0 rfl rfl ck7 dX11_again_47 ?_
      obtain ⟨ck8, h⟩ := ck h
      obtain ⟨s9, e10, h⟩ := nm_ex h
      refine va_iast hx hb hG.1 hP hD hS 5 0 rfl rfl ck8 dX11_again_48 (fun H locs hP hD hS => ?_)
      have hP : va_P G.1 vwCl (List.flatten [wX G xx s9]) H := by rw [e10]; exact hP
      have hD : va_D A (List.flatten [wX G xx s9]) := by rw [e10]; exact hD
      refine lv_iinc (v := v2 + 1) (lv' := [(2, .int (v2 + 1)), (0, .ref (xx 0)), (1, .int v1)]) hx hb dX11_again_49 hl (k := 2) rfl (by rw [li_1]) (Nat.le_of_ble_eq_true rfl) rfl (fun ls hl => ?_)
      refine lv_goto (tgt := 26) hx hb dX11_again_52 (by decide) ?_
      exact ih (v2 + 1) s9 _ _ _ hP hD hS (lv_sub hl [1, 2, 0] rfl) h
def gbX11_again_73 (F : Nat) (v1 : Int32) (rc : Int32 → ST → Option (Int32 × ST)) (v2 : Int32) (σxx : ST) : Option (Int32 × ST) :=
  if (6 : Int32) ≤ v2 then
    some (v2, σxx)
  else
    if (((6 : Int32) * v1) + v2) < 0 ∨ 12 ≤ (((6 : Int32) * v1) + v2).toNatClampNeg then none else
    if v2 < 0 ∨ 6 ≤ v2.toNatClampNeg then none else
    nm (sA σxx 24 v2.toNatClampNeg (σxx.2.1 34 (((6 : Int32) * v1) + v2).toNatClampNeg)) fun (s19 : ST) =>
    nm (sA s19 25 v2.toNatClampNeg (s19.2.1 35 (((6 : Int32) * v1) + v2).toNatClampNeg)) fun (s21 : ST) =>
    rc (v2 + 1) s21
def gX11_again_73 (F : Nat) (v1 : Int32) : Nat → Int32 → ST → Option (Int32 × ST)
  | 0, _, _ => none
  | n + 1, v2, σxx => gbX11_again_73 F v1 (gX11_again_73 F v1 n) v2 σxx
set_option maxHeartbeats 4000000 in
set_option maxRecDepth 100000 in
theorem kX11_again_73 {p : Program} {l : Launch} {e : Env} {s : State} {m : MethodId} {args : Array Value} {below : List Frame} {meth : Method} {c : Code} {A : Nat → Prop} {Q : State → Prop} {G : GP} (K : Cx p s m meth c G cX11_again RX11 3 (some .int) args A) (F : Nat) (xx : Nat → Nat) (v1 : Int32) {z : Int32 × ST} (kk : ∀ (H : Heap) (locs : List Loc) (ls : Array Slot), va_P G.1 vwCl (List.flatten [wX G xx z.2]) H → va_D A (List.flatten [wX G xx z.2]) → va_S A s.heap H locs → lv_has ls 3 [(0, .ref (xx 0)), (1, .int v1), (2, .int z.1)] → W p l e (RM 2) s m args below meth c H locs 0 0 Q (F0 m 119 ls [])) :
    ∀ (n : Nat) (v2 : Int32) (σxx : ST) (H : Heap) (locs : List Loc) (ls : Array Slot), va_P G.1 vwCl (List.flatten [wX G xx σxx]) H → va_D A (List.flatten [wX G xx σxx]) → va_S A s.heap H locs → lv_has ls 3 [(0, .ref (xx 0)), (1, .int v1), (2, .int v2)] → gX11_again_73 F v1 n v2 σxx = some z → W p l e (RM 2) s m args below meth c H locs 0 0 Q (F0 m 73 ls []) := by
  obtain ⟨hx, hb, hr, hml, hts, hown, hlocks, hA, hG⟩ := id K
  intro n
  induction n with
  | zero =>
    intro v2 σxx H locs ls hP hD hS hl h
    have h : none = some z := h
    cases h
  | succ n ih =>
    intro v2 σxx H locs ls hP hD hS hl h
    have h : gbX11_again_73 F v1 (gX11_again_73 F v1 n) v2 σxx = some z := h
    unfold gbX11_again_73 at h
    refine lv_iload_n hx hb dX11_again_73 rfl (lv_at hl 2 rfl) ?_
    refine lv_bipush (v := 6) hx hb dX11_again_74 lb_6 ?_
    refine lv_icmp_ge (tgt := 119) hx hb dX11_again_76 (by decide) (fun c16 => ?_) (fun c16 => ?_)
    · have h := if_t c16 h
      cases h
      exact kk _ _ _ hP hD hS (lv_sub hl [0, 1, 2] rfl)
    · have h := if_f c16 h
      refine lv_aload_n hx hb dX11_again_79 rfl (lv_at hl 0 rfl) ?_
      refine va_get (D := G.1) (cl := vwCl) (tys := tysG G) (ci := 11) (v := .ref (xx 25)) (C := RX11) (T := TX11) (N := 37) hx hb hts iX11 hown hG.1 hP 0 rfl rfl 24 (Nat.le_of_ble_eq_true rfl) (hts _ tw_4_121) (fun _ h9 => h9) rfl dX11_again_80 ?_
      refine lv_iload_n hx hb dX11_again_83 rfl (lv_at hl 2 rfl) ?_
      refine lv_aload_n hx hb dX11_again_84 rfl (lv_at hl 0 rfl) ?_
      refine va_get (D := G.1) (cl := vwCl) (tys := tysG G) (ci := 11) (v := .ref (xx 35)) (C := RX11) (T := TX11) (N := 37) hx hb hts iX11 hown hG.1 hP 0 rfl rfl 34 (Nat.le_of_ble_eq_true rfl) (hts _ tw_4_131) (fun _ h9 => h9) rfl dX11_again_85 ?_
      refine lv_bipush (v := 6) hx hb dX11_again_88 lb_6 ?_
      refine lv_iload_n hx hb dX11_again_90 rfl (lv_at hl 1 rfl) ?_
      refine lv_imul hx hb dX11_again_91 ?_
      refine lv_iload_n hx hb dX11_again_92 rfl (lv_at hl 2 rfl) ?_
      refine lv_iadd hx hb dX11_again_93 ?_
      obtain ⟨ck17, h⟩ := ck h
      refine va_iald hx hb hG.1 hP 18 0 rfl rfl ck17 dX11_again_94 ?_
      obtain ⟨ck18, h⟩ := ck h
      obtain ⟨s19, e20, h⟩ := nm_ex h
      refine va_iast hx hb hG.1 hP hD hS 12 0 rfl rfl ck18 dX11_again_95 (fun H locs hP hD hS => ?_)
      have hP : va_P G.1 vwCl (List.flatten [wX G xx s19]) H := by rw [e20]; exact hP
      have hD : va_D A (List.flatten [wX G xx s19]) := by rw [e20]; exact hD
      refine lv_aload_n hx hb dX11_again_96 rfl (lv_at hl 0 rfl) ?_
      refine va_get (D := G.1) (cl := vwCl) (tys := tysG G) (ci := 11) (v := .ref (xx 26)) (C := RX11) (T := TX11) (N := 37) hx hb hts iX11 hown hG.1 hP 0 rfl rfl 25 (Nat.le_of_ble_eq_true rfl) (hts _ tw_4_122) (fun _ h9 => h9) rfl dX11_again_97 ?_
      refine lv_iload_n hx hb dX11_again_100 rfl (lv_at hl 2 rfl) ?_
      refine lv_aload_n hx hb dX11_again_101 rfl (lv_at hl 0 rfl) ?_
      refine va_get (D := G.1) (cl := vwCl) (tys := tysG G) (ci := 11) (v := .ref (xx 36)) (C := RX11) (T := TX11) (N := 37) hx hb hts iX11 hown hG.1 hP 0 rfl rfl 35 (Nat.le_of_ble_eq_true rfl) (hts _ tw_4_132) (fun _ h9 => h9) rfl dX11_again_102 ?_
      refine lv_bipush (v := 6) hx hb dX11_again_105 lb_6 ?_
      refine lv_iload_n hx hb dX11_again_107 rfl (lv_at hl 1 rfl) ?_
      refine lv_imul hx hb dX11_again_108 ?_
      refine lv_iload_n hx hb dX11_again_109 rfl (lv_at hl 2 rfl) ?_
      refine lv_iadd hx hb dX11_again_110 ?_
      refine va_iald hx hb hG.1 hP 19 0 rfl rfl ck17 dX11_again_111 ?_
      obtain ⟨s21, e22, h⟩ := nm_ex h
      refine va_iast hx hb hG.1 hP hD hS 13 0 rfl rfl ck18 dX11_again_112 (fun H locs hP hD hS => ?_)
      have hP : va_P G.1 vwCl (List.flatten [wX G xx s21]) H := by rw [e22]; exact hP
      have hD : va_D A (List.flatten [wX G xx s21]) := by rw [e22]; exact hD
      refine lv_iinc (v := v2 + 1) (lv' := [(2, .int (v2 + 1)), (0, .ref (xx 0)), (1, .int v1)]) hx hb dX11_again_113 hl (k := 2) rfl (by rw [li_1]) (Nat.le_of_ble_eq_true rfl) rfl (fun ls hl => ?_)
      refine lv_goto (tgt := 73) hx hb dX11_again_116 (by decide) ?_
      exact ih (v2 + 1) s21 _ _ _ hP hD hS (lv_sub hl [1, 2, 0] rfl) h
def fX11_again (F : Nat) (σxx : ST) (x1 : Int32) : Option (Int32 × ST) :=
  (fX11_in F x1.toInt64 (0 : Int64) (1 : Int64)).bind fun r1 =>
  if r1 = 0 then
    some ((-1 : Int32), σxx)
  else
    if x1 < 0 ∨ 2 ≤ x1.toNatClampNeg then none else
    if (σxx.2.1 32 x1.toNatClampNeg) = 0 then
      some ((-3 : Int32), σxx)
    else
      (gX11_again_26 F x1 F (0 : Int32) σxx).bind fun z11 =>
        if (((25 : Int32) * x1) + (24 : Int32)) < 0 ∨ 50 ≤ (((25 : Int32) * x1) + (24 : Int32)).toNatClampNeg then none else
        nm (sI z11.2 11 (z11.2.2.1 33 (((25 : Int32) * x1) + (24 : Int32)).toNatClampNeg)) fun (s14 : ST) =>
        (gX11_again_73 F x1 F (0 : Int32) s14).bind fun z23 =>
          nm (sI z23.2 23 (z23.2.2.1 36 x1.toNatClampNeg)) fun (s25 : ST) =>
          nm (sI s25 19 (0 : Int32)) fun (s27 : ST) =>
          some (s27.1 11, s27)
theorem cdX11_again : CallD yX11_again 1 := by decide +kernel
set_option maxHeartbeats 4000000 in
set_option maxRecDepth 100000 in
theorem mX11_again (l : Launch) (G : GP) (F : Nat) (xx : Nat → Nat) (σxx : ST) (x1 : Int32) {r : Int32 × ST} (h : fX11_again F σxx x1 = some r) : CC l G yX11_again cX11_again 3 (some .int) 2 [.ref (xx 0), .int x1] (List.flatten [wX G xx σxx]) (List.flatten [wX G xx r.2]) (some (.int r.1)) := by
  refine CC.of (by decide) (Nat.le_of_ble_eq_true rfl) ?_
  intro p e s m below meth c A K hP hD hS ls hl
  obtain ⟨hx, hb, hr, hml, hts, hown, hlocks, hA, hG⟩ := id K
  have hl : lv_has ls 3 [(0, .ref (xx 0)), (1, .int x1)] := hl
  unfold fX11_again at h
  refine lv_iload_n hx hb dX11_again_0 rfl (lv_at hl 1 rfl) ?_
  refine lv_i2l (v := x1.toInt64) hx hb dX11_again_1 rfl ?_
  refine lv_lconst (v := 0) hx hb dX11_again_2 ll_0 ?_
  refine lv_lconst (v := 1) hx hb dX11_again_3 ll_1 ?_
  obtain ⟨r1, hc2, h⟩ := bd_ex h
  refine sl_S K (mX11_in l G F x1.toInt64 (0 : Int64) (1 : Int64) hc2) tw_4_217 tw_1_12 tw_4_216 tw_4_215 cdX11_in ⟨Nat.le_of_ble_eq_true rfl, Nat.le_of_ble_eq_true rfl⟩ hP hD hS [] rfl rfl rfl rfl hl.1 (Nat.le_of_ble_eq_true rfl) ⟨Nat.zero_le _, Nat.zero_le _⟩ dX11_again_4 (fun H locs hP hD hS => ?_)
  have hP : va_P G.1 vwCl (List.flatten [wX G xx σxx]) H := hP
  have hD : va_D A (List.flatten [wX G xx σxx]) := hD
  refine lv_if_ne (tgt := 12) hx hb dX11_again_7 (by decide) (fun c3 => ?_) (fun c3 => ?_)
  · have h := if_f c3 h
    refine lv_aload_n hx hb dX11_again_12 rfl (lv_at hl 0 rfl) ?_
    refine va_get (D := G.1) (cl := vwCl) (tys := tysG G) (ci := 11) (v := .ref (xx 33)) (C := RX11) (T := TX11) (N := 37) hx hb hts iX11 hown hG.1 hP 0 rfl rfl 32 (Nat.le_of_ble_eq_true rfl) (hts _ tw_4_129) (fun _ h9 => h9) rfl dX11_again_13 ?_
    refine lv_iload_n hx hb dX11_again_16 rfl (lv_at hl 1 rfl) ?_
    obtain ⟨ck4, h⟩ := ck h
    refine va_zald hx hb hG.1 hP 16 2 rfl rfl ck4 dX11_again_17 ?_
    refine lv_if_ne (tgt := 24) hx hb dX11_again_18 (by decide) (fun c5 => ?_) (fun c5 => ?_)
    · have h := if_f c5 h
      refine lv_iconst (v := 0) hx hb dX11_again_24 li_0 ?_
      refine lv_istore_n (lv' := [(2, .int (0 : Int32)), (0, .ref (xx 0)), (1, .int x1)]) hx hb dX11_again_25 rfl hl (Nat.le_of_ble_eq_true rfl) rfl (fun ls hl => ?_)
      obtain ⟨z11, hz12, h⟩ := bd_ex h
      refine kX11_again_26 K F xx x1 (fun H locs ls hP hD hS hl => ?_) F (0 : Int32) σxx _ _ _ hP hD hS (lv_sub hl [1, 2, 0] rfl) hz12
      refine lv_aload_n hx hb dX11_again_55 rfl (lv_at hl 0 rfl) ?_
      refine lv_aload_n hx hb dX11_again_56 rfl (lv_at hl 0 rfl) ?_
      refine va_get (D := G.1) (cl := vwCl) (tys := tysG G) (ci := 11) (v := .ref (xx 34)) (C := RX11) (T := TX11) (N := 37) hx hb hts iX11 hown hG.1 hP 0 rfl rfl 33 (Nat.le_of_ble_eq_true rfl) (hts _ tw_4_130) (fun _ h9 => h9) rfl dX11_again_57 ?_
      refine lv_bipush (v := 25) hx hb dX11_again_60 lb_25 ?_
      refine lv_iload_n hx hb dX11_again_62 rfl (lv_at hl 1 rfl) ?_
      refine lv_imul hx hb dX11_again_63 ?_
      refine lv_bipush (v := 24) hx hb dX11_again_64 lb_24 ?_
      refine lv_iadd hx hb dX11_again_66 ?_
      obtain ⟨ck13, h⟩ := ck h
      refine va_iald hx hb hG.1 hP 17 0 rfl rfl ck13 dX11_again_67 ?_
      obtain ⟨s14, e15, h⟩ := nm_ex h
      refine va_put (D := G.1) (cl := vwCl) (tys := tysG G) (ci := 11) (v := .int (z11.2.2.1 33 (((25 : Int32) * x1) + (24 : Int32)).toNatClampNeg)) (ty := .int) (C := RX11) (T := TX11) (N := 37) hx hb hts iX11 tyX11 tyX11_ok nmX11 hown hG.1 hP hD hS 0 rfl rfl 11 (Nat.le_of_ble_eq_true rfl) (hts _ tw_4_108) (fun _ h9 => h9) rfl (by decide +kernel) rfl rfl (Nat.le_of_ble_eq_true rfl) dX11_again_68 (fun H locs hP hD hS => ?_)
      have hP : va_P G.1 vwCl (List.flatten [wX G xx s14]) H := by rw [e15]; exact hP
      have hD : va_D A (List.flatten [wX G xx s14]) := by rw [e15]; exact hD
      refine lv_iconst (v := 0) hx hb dX11_again_71 li_0 ?_
      refine lv_istore_n (lv' := [(2, .int (0 : Int32)), (0, .ref (xx 0)), (1, .int x1)]) hx hb dX11_again_72 rfl hl (Nat.le_of_ble_eq_true rfl) rfl (fun ls hl => ?_)
      obtain ⟨z23, hz24, h⟩ := bd_ex h
      refine kX11_again_73 K F xx x1 (fun H locs ls hP hD hS hl => ?_) F (0 : Int32) s14 _ _ _ hP hD hS (lv_sub hl [1, 2, 0] rfl) hz24
      refine lv_aload_n hx hb dX11_again_119 rfl (lv_at hl 0 rfl) ?_
      refine lv_aload_n hx hb dX11_again_120 rfl (lv_at hl 0 rfl) ?_
      refine va_get (D := G.1) (cl := vwCl) (tys := tysG G) (ci := 11) (v := .ref (xx 37)) (C := RX11) (T := TX11) (N := 37) hx hb hts iX11 hown hG.1 hP 0 rfl rfl 36 (Nat.le_of_ble_eq_true rfl) (hts _ tw_4_133) (fun _ h9 => h9) rfl dX11_again_121 ?_
      refine lv_iload_n hx hb dX11_again_124 rfl (lv_at hl 1 rfl) ?_
      refine va_iald hx hb hG.1 hP 20 0 rfl rfl ck4 dX11_again_125 ?_
      obtain ⟨s25, e26, h⟩ := nm_ex h
      refine va_put (D := G.1) (cl := vwCl) (tys := tysG G) (ci := 11) (v := .int (z23.2.2.1 36 x1.toNatClampNeg)) (ty := .int) (C := RX11) (T := TX11) (N := 37) hx hb hts iX11 tyX11 tyX11_ok nmX11 hown hG.1 hP hD hS 0 rfl rfl 23 (Nat.le_of_ble_eq_true rfl) (hts _ tw_4_120) (fun _ h9 => h9) rfl (by decide +kernel) rfl rfl (Nat.le_of_ble_eq_true rfl) dX11_again_126 (fun H locs hP hD hS => ?_)
      have hP : va_P G.1 vwCl (List.flatten [wX G xx s25]) H := by rw [e26]; exact hP
      have hD : va_D A (List.flatten [wX G xx s25]) := by rw [e26]; exact hD
      refine lv_aload_n hx hb dX11_again_129 rfl (lv_at hl 0 rfl) ?_
      refine lv_iconst (v := 0) hx hb dX11_again_130 li_0 ?_
      obtain ⟨s27, e28, h⟩ := nm_ex h
      refine va_put (D := G.1) (cl := vwCl) (tys := tysG G) (ci := 11) (v := .int (0 : Int32)) (ty := .int) (C := RX11) (T := TX11) (N := 37) hx hb hts iX11 tyX11 tyX11_ok nmX11 hown hG.1 hP hD hS 0 rfl rfl 19 (Nat.le_of_ble_eq_true rfl) (hts _ tw_4_116) (fun _ h9 => h9) rfl (by decide +kernel) rfl rfl (Nat.le_of_ble_eq_true rfl) dX11_again_131 (fun H locs hP hD hS => ?_)
      have hP : va_P G.1 vwCl (List.flatten [wX G xx s27]) H := by rw [e28]; exact hP
      have hD : va_D A (List.flatten [wX G xx s27]) := by rw [e28]; exact hD
      refine lv_aload_n hx hb dX11_again_134 rfl (lv_at hl 0 rfl) ?_
      refine va_get (D := G.1) (cl := vwCl) (tys := tysG G) (ci := 11) (v := .int (s27.1 11)) (C := RX11) (T := TX11) (N := 37) hx hb hts iX11 hown hG.1 hP 0 rfl rfl 11 (Nat.le_of_ble_eq_true rfl) (hts _ tw_4_108) (fun _ h9 => h9) rfl dX11_again_135 ?_
      cases h
      exact rt_i K hP hD hS dX11_again_138
    · have h := if_t c5 h
      refine lv_bipush (v := -3) hx hb dX11_again_21 lb_m3 ?_
      cases h
      exact rt_i K hP hD hS dX11_again_23
  · have h := if_t c3 h
    refine lv_iconst (v := -1) hx hb dX11_again_10 li_m1 ?_
    cases h
    exact rt_i K hP hD hS dX11_again_11
def fX11_count (F : Nat) (σxx : ST) (x1 : Int32) : Option (Int32) :=
  if x1 = 0 then
    some (σxx.1 16)
  else
  if x1 = 1 then
    some (σxx.1 11)
  else
  if x1 = 2 then
    some (σxx.1 12)
  else
  if x1 = 3 then
    (fX11_counts F σxx).bind fun r5 =>
    some r5
  else
  if x1 = 4 then
    some (σxx.1 23)
  else
  if x1 = 5 then
    some (σxx.1 19)
  else
  if x1 = 6 then
    some (σxx.1 13)
  else
  if x1 = 7 then
    some (σxx.1 14)
  else
    some (-2 : Int32)
theorem cdX11_count : CallD yX11_count 1 := by decide +kernel
set_option maxHeartbeats 4000000 in
set_option maxRecDepth 100000 in
theorem mX11_count (l : Launch) (G : GP) (F : Nat) (xx : Nat → Nat) (σxx : ST) (x1 : Int32) {r : Int32} (h : fX11_count F σxx x1 = some r) : CC l G yX11_count cX11_count 2 (some .int) 3 [.ref (xx 0), .int x1] (List.flatten [wX G xx σxx]) (List.flatten [wX G xx σxx]) (some (.int r)) := by
  refine CC.of (by decide) (Nat.le_of_ble_eq_true rfl) ?_
  intro p e s m below meth c A K hP hD hS ls hl
  obtain ⟨hx, hb, hr, hml, hts, hown, hlocks, hA, hG⟩ := id K
  have hl : lv_has ls 2 [(0, .ref (xx 0)), (1, .int x1)] := hl
  unfold fX11_count at h
  refine lv_iload_n hx hb dX11_count_0 rfl (lv_at hl 1 rfl) ?_
  by_cases c1 : x1 = 0
  · have h := if_t c1 h
    refine lv_tableIn (off := 47) (tgt := 48) hx hb dX11_count_1 (by rw [c1]; decide) (by rw [c1]; decide) (by rw [c1] <;> rfl) (by decide) ?_
    refine lv_aload_n hx hb dX11_count_48 rfl (lv_at hl 0 rfl) ?_
    refine va_get (D := G.1) (cl := vwCl) (tys := tysG G) (ci := 11) (v := .int (σxx.1 16)) (C := RX11) (T := TX11) (N := 37) hx hb hts iX11 hown hG.1 hP 0 rfl rfl 16 (Nat.le_of_ble_eq_true rfl) (hts _ tw_4_113) (fun _ h9 => h9) rfl dX11_count_49 ?_
    cases h
    exact rt_i K hP hD hS dX11_count_52
  have h := if_f c1 h
  by_cases c2 : x1 = 1
  · have h := if_t c2 h
    refine lv_tableIn (off := 52) (tgt := 53) hx hb dX11_count_1 (by rw [c2]; decide) (by rw [c2]; decide) (by rw [c2] <;> rfl) (by decide) ?_
    refine lv_aload_n hx hb dX11_count_53 rfl (lv_at hl 0 rfl) ?_
    refine va_get (D := G.1) (cl := vwCl) (tys := tysG G) (ci := 11) (v := .int (σxx.1 11)) (C := RX11) (T := TX11) (N := 37) hx hb hts iX11 hown hG.1 hP 0 rfl rfl 11 (Nat.le_of_ble_eq_true rfl) (hts _ tw_4_108) (fun _ h9 => h9) rfl dX11_count_54 ?_
    cases h
    exact rt_i K hP hD hS dX11_count_57
  have h := if_f c2 h
  by_cases c3 : x1 = 2
  · have h := if_t c3 h
    refine lv_tableIn (off := 57) (tgt := 58) hx hb dX11_count_1 (by rw [c3]; decide) (by rw [c3]; decide) (by rw [c3] <;> rfl) (by decide) ?_
    refine lv_aload_n hx hb dX11_count_58 rfl (lv_at hl 0 rfl) ?_
    refine va_get (D := G.1) (cl := vwCl) (tys := tysG G) (ci := 11) (v := .int (σxx.1 12)) (C := RX11) (T := TX11) (N := 37) hx hb hts iX11 hown hG.1 hP 0 rfl rfl 12 (Nat.le_of_ble_eq_true rfl) (hts _ tw_4_109) (fun _ h9 => h9) rfl dX11_count_59 ?_
    cases h
    exact rt_i K hP hD hS dX11_count_62
  have h := if_f c3 h
  by_cases c4 : x1 = 3
  · have h := if_t c4 h
    refine lv_tableIn (off := 62) (tgt := 63) hx hb dX11_count_1 (by rw [c4]; decide) (by rw [c4]; decide) (by rw [c4] <;> rfl) (by decide) ?_
    refine lv_aload_n hx hb dX11_count_63 rfl (lv_at hl 0 rfl) ?_
    obtain ⟨r5, hc6, h⟩ := bd_ex h
    refine sl_V (q0 := 0) (ci := 11) (C := RX11) K (mX11_counts l G F xx σxx hc6) tw_5_143 tw_1_12 tw_5_142 tw_0_16 tw_5_140 cdX11_counts ⟨Nat.le_of_ble_eq_true rfl, Nat.le_of_ble_eq_true rfl⟩ hP hD hS [0] rfl rfl rfl rfl rfl rfl rfl hl.1 (Nat.le_of_ble_eq_true rfl) ⟨Nat.zero_le _, Nat.zero_le _⟩ dX11_count_64 (fun H locs hP hD hS => ?_)
    have hP : va_P G.1 vwCl (List.flatten [wX G xx σxx]) H := hP
    have hD : va_D A (List.flatten [wX G xx σxx]) := hD
    cases h
    exact rt_i K hP hD hS dX11_count_67
  have h := if_f c4 h
  by_cases c7 : x1 = 4
  · have h := if_t c7 h
    refine lv_tableIn (off := 67) (tgt := 68) hx hb dX11_count_1 (by rw [c7]; decide) (by rw [c7]; decide) (by rw [c7] <;> rfl) (by decide) ?_
    refine lv_aload_n hx hb dX11_count_68 rfl (lv_at hl 0 rfl) ?_
    refine va_get (D := G.1) (cl := vwCl) (tys := tysG G) (ci := 11) (v := .int (σxx.1 23)) (C := RX11) (T := TX11) (N := 37) hx hb hts iX11 hown hG.1 hP 0 rfl rfl 23 (Nat.le_of_ble_eq_true rfl) (hts _ tw_4_120) (fun _ h9 => h9) rfl dX11_count_69 ?_
    cases h
    exact rt_i K hP hD hS dX11_count_72
  have h := if_f c7 h
  by_cases c8 : x1 = 5
  · have h := if_t c8 h
    refine lv_tableIn (off := 72) (tgt := 73) hx hb dX11_count_1 (by rw [c8]; decide) (by rw [c8]; decide) (by rw [c8] <;> rfl) (by decide) ?_
    refine lv_aload_n hx hb dX11_count_73 rfl (lv_at hl 0 rfl) ?_
    refine va_get (D := G.1) (cl := vwCl) (tys := tysG G) (ci := 11) (v := .int (σxx.1 19)) (C := RX11) (T := TX11) (N := 37) hx hb hts iX11 hown hG.1 hP 0 rfl rfl 19 (Nat.le_of_ble_eq_true rfl) (hts _ tw_4_116) (fun _ h9 => h9) rfl dX11_count_74 ?_
    cases h
    exact rt_i K hP hD hS dX11_count_77
  have h := if_f c8 h
  by_cases c9 : x1 = 6
  · have h := if_t c9 h
    refine lv_tableIn (off := 77) (tgt := 78) hx hb dX11_count_1 (by rw [c9]; decide) (by rw [c9]; decide) (by rw [c9] <;> rfl) (by decide) ?_
    refine lv_aload_n hx hb dX11_count_78 rfl (lv_at hl 0 rfl) ?_
    refine va_get (D := G.1) (cl := vwCl) (tys := tysG G) (ci := 11) (v := .int (σxx.1 13)) (C := RX11) (T := TX11) (N := 37) hx hb hts iX11 hown hG.1 hP 0 rfl rfl 13 (Nat.le_of_ble_eq_true rfl) (hts _ tw_4_110) (fun _ h9 => h9) rfl dX11_count_79 ?_
    cases h
    exact rt_i K hP hD hS dX11_count_82
  have h := if_f c9 h
  by_cases c10 : x1 = 7
  · have h := if_t c10 h
    refine lv_tableIn (off := 82) (tgt := 83) hx hb dX11_count_1 (by rw [c10]; decide) (by rw [c10]; decide) (by rw [c10] <;> rfl) (by decide) ?_
    refine lv_aload_n hx hb dX11_count_83 rfl (lv_at hl 0 rfl) ?_
    refine va_get (D := G.1) (cl := vwCl) (tys := tysG G) (ci := 11) (v := .int (σxx.1 14)) (C := RX11) (T := TX11) (N := 37) hx hb hts iX11 hown hG.1 hP 0 rfl rfl 14 (Nat.le_of_ble_eq_true rfl) (hts _ tw_4_111) (fun _ h9 => h9) rfl dX11_count_84 ?_
    cases h
    exact rt_i K hP hD hS dX11_count_87
  have h := if_f c10 h
  refine lv_tableOut (tgt := 88) hx hb dX11_count_1 (by have n0 := lv_neT c1 (a := 0) rfl; have n1 := lv_neT c2 (a := 1) rfl; have n2 := lv_neT c3 (a := 2) rfl; have n3 := lv_neT c4 (a := 3) rfl; have n4 := lv_neT c7 (a := 4) rfl; have n5 := lv_neT c8 (a := 5) rfl; have n6 := lv_neT c9 (a := 6) rfl; have n7 := lv_neT c10 (a := 7) rfl; omega) (by decide) ?_
  refine lv_bipush (v := -2) hx hb dX11_count_88 lb_m2 ?_
  cases h
  exact rt_i K hP hD hS dX11_count_90
