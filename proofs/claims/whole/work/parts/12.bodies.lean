def fX1_has (F : Nat) (σbb : ST) (x1 : Int32) : Option (Int32) :=
  (fX10_isBelow F x1 (σbb.1 3)).bind fun r1 =>
  if ¬ (r1 = 0 ∨ r1 = 1) then none else
  some r1
theorem cdX1_has : CallD yX1_has 1 := by decide +kernel
set_option maxHeartbeats 4000000 in
set_option maxRecDepth 100000 in
theorem mX1_has (l : Launch) (G : GP) (F : Nat) (bb : Nat → Nat) (σbb : ST) (x1 : Int32) {r : Int32} (h : fX1_has F σbb x1 = some r) : CC l G yX1_has cX1_has 2 (some .boolean) 2 [.ref (bb 0), .int x1] (List.flatten [wB G bb σbb]) (List.flatten [wB G bb σbb]) (some (.int r)) := by
  refine CC.of (by decide) (Nat.le_of_ble_eq_true rfl) ?_
  intro p e s m below meth c A K hP hD hS ls hl
  obtain ⟨hx, hb, hr, hml, hts, hown, hlocks, hA, hG⟩ := id K
  have hl : lv_has ls 2 [(0, .ref (bb 0)), (1, .int x1)] := hl
  unfold fX1_has at h
  refine lv_iload_n hx hb dX1_has_0 rfl (lv_at hl 1 rfl) ?_
  refine lv_aload_n hx hb dX1_has_1 rfl (lv_at hl 0 rfl) ?_
  refine va_get (D := G.1) (cl := vwCl) (tys := tysG G) (ci := 1) (v := .int (σbb.1 3)) (C := RX1) (T := TX1) (N := 4) hx hb hts iX1 hown hG.1 hP 0 rfl rfl 3 (Nat.le_of_ble_eq_true rfl) (hts _ tw_1_74) (fun _ h9 => h9) rfl dX1_has_2 ?_
  obtain ⟨r1, hc2, h⟩ := bd_ex h
  refine sl_SN K (mX10_isBelow l G F x1 (σbb.1 3) hc2) tw_2_194 tw_1_1 tw_2_193 tw_2_239 cdX10_isBelow ⟨Nat.le_of_ble_eq_true rfl, Nat.le_of_ble_eq_true rfl⟩ hP hD hS [] rfl rfl rfl rfl hl.1 (Nat.le_of_ble_eq_true rfl) ⟨Nat.zero_le _, Nat.zero_le _⟩ dX1_has_5 (fun H locs hP hD hS => ?_)
  have hP : va_P G.1 vwCl (List.flatten [wB G bb σbb]) H := hP
  have hD : va_D A (List.flatten [wB G bb σbb]) := hD
  obtain ⟨ck3, h⟩ := ck h
  cases h
  exact rt_z K (Classical.not_not.mp ck3) hP hD hS dX1_has_8
def fX1_height (F : Nat) (σbb : ST) (x1 : Int32) : Option (Int32) :=
  if x1 < 0 ∨ 8 ≤ x1.toNatClampNeg then none else
  if (σbb.2.1 0 x1.toNatClampNeg) < 0 ∨ 6 ≤ (σbb.2.1 0 x1.toNatClampNeg).toNatClampNeg then none else
  some (hgtI (σbb.2.1 0 x1.toNatClampNeg).toNatClampNeg)
theorem cdX1_height : CallD yX1_height 1 := by decide +kernel
set_option maxHeartbeats 4000000 in
set_option maxRecDepth 100000 in
theorem mX1_height (l : Launch) (G : GP) (F : Nat) (bb : Nat → Nat) (σbb : ST) (x1 : Int32) {r : Int32} (h : fX1_height F σbb x1 = some r) : CC l G yX1_height cX1_height 2 (some .int) 1 [.ref (bb 0), .int x1] (List.flatten [wB G bb σbb]) (List.flatten [wB G bb σbb]) (some (.int r)) := by
  refine CC.of (by decide) (Nat.le_of_ble_eq_true rfl) ?_
  intro p e s m below meth c A K hP hD hS ls hl
  obtain ⟨hx, hb, hr, hml, hts, hown, hlocks, hA, hG⟩ := id K
  have hl : lv_has ls 2 [(0, .ref (bb 0)), (1, .int x1)] := hl
  unfold fX1_height at h
  refine va_getsN hx hb hG.2.2.1.1 hS hown (va_Nw.use rfl (hG.2.1 _ tw_3_55)) (fun _ h9 => h9) dX1_height_0 ?_
  refine lv_aload_n hx hb dX1_height_3 rfl (lv_at hl 0 rfl) ?_
  refine va_get (D := G.1) (cl := vwCl) (tys := tysG G) (ci := 1) (v := .ref (bb 1)) (C := RX1) (T := TX1) (N := 4) hx hb hts iX1 hown hG.1 hP 0 rfl rfl 0 (Nat.le_of_ble_eq_true rfl) (hts _ tw_1_63) (fun _ h9 => h9) rfl dX1_height_4 ?_
  refine lv_iload_n hx hb dX1_height_7 rfl (lv_at hl 1 rfl) ?_
  obtain ⟨ck1, h⟩ := ck h
  refine va_iald hx hb hG.1 hP 1 0 rfl rfl ck1 dX1_height_8 ?_
  obtain ⟨ck2, h⟩ := ck h
  refine va_ti (v := .int (hgtI (σbb.2.1 0 x1.toNatClampNeg).toNatClampNeg)) hx hb hG.2.2.1.2 hS ck2 rfl dX1_height_9 ?_
  cases h
  exact rt_i K hP hD hS dX1_height_10
def fX1_heads (F : Nat) (σbb : ST) (x1 : Int32) : Option (Int32) :=
  if x1 < 0 ∨ 8 ≤ x1.toNatClampNeg then none else
  if (σbb.2.1 0 x1.toNatClampNeg) < 0 ∨ 6 ≤ (σbb.2.1 0 x1.toNatClampNeg).toNatClampNeg then none else
  some (hdsI (σbb.2.1 0 x1.toNatClampNeg).toNatClampNeg)
theorem cdX1_heads : CallD yX1_heads 1 := by decide +kernel
set_option maxHeartbeats 4000000 in
set_option maxRecDepth 100000 in
theorem mX1_heads (l : Launch) (G : GP) (F : Nat) (bb : Nat → Nat) (σbb : ST) (x1 : Int32) {r : Int32} (h : fX1_heads F σbb x1 = some r) : CC l G yX1_heads cX1_heads 2 (some .int) 1 [.ref (bb 0), .int x1] (List.flatten [wB G bb σbb]) (List.flatten [wB G bb σbb]) (some (.int r)) := by
  refine CC.of (by decide) (Nat.le_of_ble_eq_true rfl) ?_
  intro p e s m below meth c A K hP hD hS ls hl
  obtain ⟨hx, hb, hr, hml, hts, hown, hlocks, hA, hG⟩ := id K
  have hl : lv_has ls 2 [(0, .ref (bb 0)), (1, .int x1)] := hl
  unfold fX1_heads at h
  refine va_getsN hx hb hG.2.2.2.1.1 hS hown (va_Nw.use rfl (hG.2.1 _ tw_3_61)) (fun _ h9 => h9) dX1_heads_0 ?_
  refine lv_aload_n hx hb dX1_heads_3 rfl (lv_at hl 0 rfl) ?_
  refine va_get (D := G.1) (cl := vwCl) (tys := tysG G) (ci := 1) (v := .ref (bb 1)) (C := RX1) (T := TX1) (N := 4) hx hb hts iX1 hown hG.1 hP 0 rfl rfl 0 (Nat.le_of_ble_eq_true rfl) (hts _ tw_1_63) (fun _ h9 => h9) rfl dX1_heads_4 ?_
  refine lv_iload_n hx hb dX1_heads_7 rfl (lv_at hl 1 rfl) ?_
  obtain ⟨ck1, h⟩ := ck h
  refine va_iald hx hb hG.1 hP 1 0 rfl rfl ck1 dX1_heads_8 ?_
  obtain ⟨ck2, h⟩ := ck h
  refine va_ti (v := .int (hdsI (σbb.2.1 0 x1.toNatClampNeg).toNatClampNeg)) hx hb hG.2.2.2.1.2 hS ck2 rfl dX1_heads_9 ?_
  cases h
  exact rt_i K hP hD hS dX1_heads_10
def gbX1_allHeads_4 (F : Nat) (σbb : ST) (rc : Int32 → Int32 → Option (Int32 × Int32)) (v1 : Int32) (v2 : Int32) : Option (Int32 × Int32) :=
  if (σbb.1 3) ≤ v2 then
    some (v1, v2)
  else
    (fX1_heads F σbb v2).bind fun r2 =>
    rc (v1 + r2) (v2 + 1)
def gX1_allHeads_4 (F : Nat) (σbb : ST) : Nat → Int32 → Int32 → Option (Int32 × Int32)
  | 0, _, _ => none
  | n + 1, v1, v2 => gbX1_allHeads_4 F σbb (gX1_allHeads_4 F σbb n) v1 v2
set_option maxHeartbeats 4000000 in
set_option maxRecDepth 100000 in
theorem kX1_allHeads_4 {p : Program} {l : Launch} {e : Env} {s : State} {m : MethodId} {args : Array Value} {below : List Frame} {meth : Method} {c : Code} {A : Nat → Prop} {Q : State → Prop} {G : GP} (K : Cx p s m meth c G cX1_allHeads RX1 3 (some .int) args A) (F : Nat) (bb : Nat → Nat) (σbb : ST) {z : Int32 × Int32} (kk : ∀ (H : Heap) (locs : List Loc) (ls : Array Slot), va_P G.1 vwCl (List.flatten [wB G bb σbb]) H → va_D A (List.flatten [wB G bb σbb]) → va_S A s.heap H locs → lv_has ls 3 [(0, .ref (bb 0)), (1, .int z.1), (2, .int z.2)] → W p l e (RM 2) s m args below meth c H locs 0 0 Q (F0 m 26 ls [])) :
    ∀ (n : Nat) (v1 : Int32) (v2 : Int32) (H : Heap) (locs : List Loc) (ls : Array Slot), va_P G.1 vwCl (List.flatten [wB G bb σbb]) H → va_D A (List.flatten [wB G bb σbb]) → va_S A s.heap H locs → lv_has ls 3 [(0, .ref (bb 0)), (1, .int v1), (2, .int v2)] → gX1_allHeads_4 F σbb n v1 v2 = some z → W p l e (RM 2) s m args below meth c H locs 0 0 Q (F0 m 4 ls []) := by
  obtain ⟨hx, hb, hr, hml, hts, hown, hlocks, hA, hG⟩ := id K
  intro n
  induction n with
  | zero =>
    intro v1 v2 H locs ls hP hD hS hl h
    have h : none = some z := h
    cases h
  | succ n ih =>
    intro v1 v2 H locs ls hP hD hS hl h
    have h : gbX1_allHeads_4 F σbb (gX1_allHeads_4 F σbb n) v1 v2 = some z := h
    unfold gbX1_allHeads_4 at h
    refine lv_iload_n hx hb dX1_allHeads_4 rfl (lv_at hl 2 rfl) ?_
    refine lv_aload_n hx hb dX1_allHeads_5 rfl (lv_at hl 0 rfl) ?_
    refine va_get (D := G.1) (cl := vwCl) (tys := tysG G) (ci := 1) (v := .int (σbb.1 3)) (C := RX1) (T := TX1) (N := 4) hx hb hts iX1 hown hG.1 hP 0 rfl rfl 3 (Nat.le_of_ble_eq_true rfl) (hts _ tw_1_74) (fun _ h9 => h9) rfl dX1_allHeads_6 ?_
    refine lv_icmp_ge (tgt := 26) hx hb dX1_allHeads_9 (by decide) (fun c1 => ?_) (fun c1 => ?_)
    · have h := if_t c1 h
      cases h
      exact kk _ _ _ hP hD hS (lv_sub hl [0, 1, 2] rfl)
    · have h := if_f c1 h
      refine lv_iload_n hx hb dX1_allHeads_12 rfl (lv_at hl 1 rfl) ?_
      refine lv_aload_n hx hb dX1_allHeads_13 rfl (lv_at hl 0 rfl) ?_
      refine lv_iload_n hx hb dX1_allHeads_14 rfl (lv_at hl 2 rfl) ?_
      obtain ⟨r2, hc3, h⟩ := bd_ex h
      refine sl_V (q0 := 0) (ci := 1) (C := RX1) K (mX1_heads l G F bb σbb v2 hc3) tw_3_60 tw_1_5 tw_3_58 tw_3_59 tw_3_207 cdX1_heads ⟨Nat.le_of_ble_eq_true rfl, Nat.le_of_ble_eq_true rfl⟩ hP hD hS [0] rfl rfl rfl rfl rfl rfl rfl hl.1 (Nat.le_of_ble_eq_true rfl) ⟨Nat.zero_le _, Nat.zero_le _⟩ dX1_allHeads_15 (fun H locs hP hD hS => ?_)
      have hP : va_P G.1 vwCl (List.flatten [wB G bb σbb]) H := hP
      have hD : va_D A (List.flatten [wB G bb σbb]) := hD
      refine lv_iadd hx hb dX1_allHeads_18 ?_
      refine lv_istore_n (lv' := [(1, .int (v1 + r2)), (0, .ref (bb 0)), (2, .int v2)]) hx hb dX1_allHeads_19 rfl hl (Nat.le_of_ble_eq_true rfl) rfl (fun ls hl => ?_)
      refine lv_iinc (v := v2 + 1) (lv' := [(2, .int (v2 + 1)), (1, .int (v1 + r2)), (0, .ref (bb 0))]) hx hb dX1_allHeads_20 hl (k := 2) rfl (by rw [li_1]) (Nat.le_of_ble_eq_true rfl) rfl (fun ls hl => ?_)
      refine lv_goto (tgt := 4) hx hb dX1_allHeads_23 (by decide) ?_
      exact ih (v1 + r2) (v2 + 1) _ _ _ hP hD hS (lv_sub hl [2, 1, 0] rfl) h
def fX1_allHeads (F : Nat) (σbb : ST)  : Option (Int32) :=
  (gX1_allHeads_4 F σbb F (0 : Int32) (0 : Int32)).bind fun z4 =>
    some z4.1
theorem cdX1_allHeads : CallD yX1_allHeads 0 := by decide +kernel
set_option maxHeartbeats 4000000 in
set_option maxRecDepth 100000 in
theorem mX1_allHeads (l : Launch) (G : GP) (F : Nat) (bb : Nat → Nat) (σbb : ST)  {r : Int32} (h : fX1_allHeads F σbb  = some r) : CC l G yX1_allHeads cX1_allHeads 3 (some .int) 2 [.ref (bb 0)] (List.flatten [wB G bb σbb]) (List.flatten [wB G bb σbb]) (some (.int r)) := by
  refine CC.of (by decide) (Nat.le_of_ble_eq_true rfl) ?_
  intro p e s m below meth c A K hP hD hS ls hl
  obtain ⟨hx, hb, hr, hml, hts, hown, hlocks, hA, hG⟩ := id K
  have hl : lv_has ls 3 [(0, .ref (bb 0))] := hl
  unfold fX1_allHeads at h
  refine lv_iconst (v := 0) hx hb dX1_allHeads_0 li_0 ?_
  refine lv_istore_n (lv' := [(1, .int (0 : Int32)), (0, .ref (bb 0))]) hx hb dX1_allHeads_1 rfl hl (Nat.le_of_ble_eq_true rfl) rfl (fun ls hl => ?_)
  refine lv_iconst (v := 0) hx hb dX1_allHeads_2 li_0 ?_
  refine lv_istore_n (lv' := [(2, .int (0 : Int32)), (1, .int (0 : Int32)), (0, .ref (bb 0))]) hx hb dX1_allHeads_3 rfl hl (Nat.le_of_ble_eq_true rfl) rfl (fun ls hl => ?_)
  obtain ⟨z4, hz5, h⟩ := bd_ex h
  refine kX1_allHeads_4 K F bb σbb (fun H locs ls hP hD hS hl => ?_) F (0 : Int32) (0 : Int32) _ _ _ hP hD hS (lv_sub hl [2, 1, 0] rfl) hz5
  refine lv_iload_n hx hb dX1_allHeads_26 rfl (lv_at hl 1 rfl) ?_
  cases h
  exact rt_i K hP hD hS dX1_allHeads_27
def gbX1_standsAt_2 (F : Nat) (σbb : ST) (v1 : Int32) (v2 : Int32) (rc : Int32 → Option (Nat × Int32)) (v3 : Int32) : Option (Nat × Int32) :=
  if (σbb.1 3) ≤ v3 then
    some ((38 : Nat), v3)
  else
    if v3 < 0 ∨ 8 ≤ v3.toNatClampNeg then none else
    if (σbb.2.1 1 v3.toNatClampNeg) = v1 then
      if (σbb.2.1 2 v3.toNatClampNeg) = v2 then
        some ((30 : Nat), v3)
      else
        rc (v3 + 1)
    else
      rc (v3 + 1)
def gX1_standsAt_2 (F : Nat) (σbb : ST) (v1 : Int32) (v2 : Int32) : Nat → Int32 → Option (Nat × Int32)
  | 0, _ => none
  | n + 1, v3 => gbX1_standsAt_2 F σbb v1 v2 (gX1_standsAt_2 F σbb v1 v2 n) v3
set_option maxHeartbeats 4000000 in
set_option maxRecDepth 100000 in
theorem kX1_standsAt_2 {p : Program} {l : Launch} {e : Env} {s : State} {m : MethodId} {args : Array Value} {below : List Frame} {meth : Method} {c : Code} {A : Nat → Prop} {Q : State → Prop} {G : GP} (K : Cx p s m meth c G cX1_standsAt RX1 4 (some .boolean) args A) (F : Nat) (bb : Nat → Nat) (σbb : ST) (v1 : Int32) (v2 : Int32) {z : Nat × Int32} (kk30 : z.1 = 30 → ∀ (H : Heap) (locs : List Loc) (ls : Array Slot), va_P G.1 vwCl (List.flatten [wB G bb σbb]) H → va_D A (List.flatten [wB G bb σbb]) → va_S A s.heap H locs → lv_has ls 4 [(0, .ref (bb 0)), (1, .int v1), (2, .int v2), (3, .int z.2)] → W p l e (RM 1) s m args below meth c H locs 0 0 Q (F0 m 30 ls [])) (kk38 : z.1 = 38 → ∀ (H : Heap) (locs : List Loc) (ls : Array Slot), va_P G.1 vwCl (List.flatten [wB G bb σbb]) H → va_D A (List.flatten [wB G bb σbb]) → va_S A s.heap H locs → lv_has ls 4 [(0, .ref (bb 0)), (1, .int v1), (2, .int v2), (3, .int z.2)] → W p l e (RM 1) s m args below meth c H locs 0 0 Q (F0 m 38 ls [])) :
    ∀ (n : Nat) (v3 : Int32) (H : Heap) (locs : List Loc) (ls : Array Slot), va_P G.1 vwCl (List.flatten [wB G bb σbb]) H → va_D A (List.flatten [wB G bb σbb]) → va_S A s.heap H locs → lv_has ls 4 [(0, .ref (bb 0)), (1, .int v1), (2, .int v2), (3, .int v3)] → gX1_standsAt_2 F σbb v1 v2 n v3 = some z → W p l e (RM 1) s m args below meth c H locs 0 0 Q (F0 m 2 ls []) := by
  obtain ⟨hx, hb, hr, hml, hts, hown, hlocks, hA, hG⟩ := id K
  intro n
  induction n with
  | zero =>
    intro v3 H locs ls hP hD hS hl h
    have h : none = some z := h
    cases h
  | succ n ih =>
    intro v3 H locs ls hP hD hS hl h
    have h : gbX1_standsAt_2 F σbb v1 v2 (gX1_standsAt_2 F σbb v1 v2 n) v3 = some z := h
    unfold gbX1_standsAt_2 at h
    refine lv_iload_n hx hb dX1_standsAt_2 rfl (lv_at hl 3 rfl) ?_
    refine lv_aload_n hx hb dX1_standsAt_3 rfl (lv_at hl 0 rfl) ?_
    refine va_get (D := G.1) (cl := vwCl) (tys := tysG G) (ci := 1) (v := .int (σbb.1 3)) (C := RX1) (T := TX1) (N := 4) hx hb hts iX1 hown hG.1 hP 0 rfl rfl 3 (Nat.le_of_ble_eq_true rfl) (hts _ tw_1_74) (fun _ h9 => h9) rfl dX1_standsAt_4 ?_
    refine lv_icmp_ge (tgt := 38) hx hb dX1_standsAt_7 (by decide) (fun c1 => ?_) (fun c1 => ?_)
    · have h := if_t c1 h
      cases h
      exact kk38 rfl _ _ _ hP hD hS (lv_sub hl [0, 1, 2, 3] rfl)
    · have h := if_f c1 h
      refine lv_aload_n hx hb dX1_standsAt_10 rfl (lv_at hl 0 rfl) ?_
      refine va_get (D := G.1) (cl := vwCl) (tys := tysG G) (ci := 1) (v := .ref (bb 2)) (C := RX1) (T := TX1) (N := 4) hx hb hts iX1 hown hG.1 hP 0 rfl rfl 1 (Nat.le_of_ble_eq_true rfl) (hts _ tw_1_66) (fun _ h9 => h9) rfl dX1_standsAt_11 ?_
      refine lv_iload_n hx hb dX1_standsAt_14 rfl (lv_at hl 3 rfl) ?_
      obtain ⟨ck2, h⟩ := ck h
      refine va_iald hx hb hG.1 hP 2 0 rfl rfl ck2 dX1_standsAt_15 ?_
      refine lv_iload_n hx hb dX1_standsAt_16 rfl (lv_at hl 1 rfl) ?_
      refine lv_icmp_ne (tgt := 32) hx hb dX1_standsAt_17 (by decide) (fun c3 => ?_) (fun c3 => ?_)
      · have h := if_f c3 h
        refine lv_iinc (v := v3 + 1) (lv' := [(3, .int (v3 + 1)), (0, .ref (bb 0)), (1, .int v1), (2, .int v2)]) hx hb dX1_standsAt_32 hl (k := 3) rfl (by rw [li_1]) (Nat.le_of_ble_eq_true rfl) rfl (fun ls hl => ?_)
        refine lv_goto (tgt := 2) hx hb dX1_standsAt_35 (by decide) ?_
        exact ih (v3 + 1) _ _ _ hP hD hS (lv_sub hl [1, 2, 3, 0] rfl) h
      · have h := if_t c3 h
        refine lv_aload_n hx hb dX1_standsAt_20 rfl (lv_at hl 0 rfl) ?_
        refine va_get (D := G.1) (cl := vwCl) (tys := tysG G) (ci := 1) (v := .ref (bb 3)) (C := RX1) (T := TX1) (N := 4) hx hb hts iX1 hown hG.1 hP 0 rfl rfl 2 (Nat.le_of_ble_eq_true rfl) (hts _ tw_1_70) (fun _ h9 => h9) rfl dX1_standsAt_21 ?_
        refine lv_iload_n hx hb dX1_standsAt_24 rfl (lv_at hl 3 rfl) ?_
        refine va_iald hx hb hG.1 hP 3 0 rfl rfl ck2 dX1_standsAt_25 ?_
        refine lv_iload_n hx hb dX1_standsAt_26 rfl (lv_at hl 2 rfl) ?_
        refine lv_icmp_ne (tgt := 32) hx hb dX1_standsAt_27 (by decide) (fun c4 => ?_) (fun c4 => ?_)
        · have h := if_f c4 h
          refine lv_iinc (v := v3 + 1) (lv' := [(3, .int (v3 + 1)), (0, .ref (bb 0)), (1, .int v1), (2, .int v2)]) hx hb dX1_standsAt_32 hl (k := 3) rfl (by rw [li_1]) (Nat.le_of_ble_eq_true rfl) rfl (fun ls hl => ?_)
          refine lv_goto (tgt := 2) hx hb dX1_standsAt_35 (by decide) ?_
          exact ih (v3 + 1) _ _ _ hP hD hS (lv_sub hl [1, 2, 3, 0] rfl) h
        · have h := if_t c4 h
          cases h
          exact kk30 rfl _ _ _ hP hD hS (lv_sub hl [0, 1, 2, 3] rfl)
def fX1_standsAt (F : Nat) (σbb : ST) (x1 : Int32) (x2 : Int32) : Option (Int32) :=
  (gX1_standsAt_2 F σbb x1 x2 F (0 : Int32)).bind fun z5 =>
    if z5.1 = 30 then
      some (1 : Int32)
    else
      some (0 : Int32)
theorem cdX1_standsAt : CallD yX1_standsAt 2 := by decide +kernel
set_option maxHeartbeats 4000000 in
set_option maxRecDepth 100000 in
theorem mX1_standsAt (l : Launch) (G : GP) (F : Nat) (bb : Nat → Nat) (σbb : ST) (x1 : Int32) (x2 : Int32) {r : Int32} (h : fX1_standsAt F σbb x1 x2 = some r) : CC l G yX1_standsAt cX1_standsAt 4 (some .boolean) 1 [.ref (bb 0), .int x1, .int x2] (List.flatten [wB G bb σbb]) (List.flatten [wB G bb σbb]) (some (.int r)) := by
  refine CC.of (by decide) (Nat.le_of_ble_eq_true rfl) ?_
  intro p e s m below meth c A K hP hD hS ls hl
  obtain ⟨hx, hb, hr, hml, hts, hown, hlocks, hA, hG⟩ := id K
  have hl : lv_has ls 4 [(0, .ref (bb 0)), (1, .int x1), (2, .int x2)] := hl
  unfold fX1_standsAt at h
  refine lv_iconst (v := 0) hx hb dX1_standsAt_0 li_0 ?_
  refine lv_istore_n (lv' := [(3, .int (0 : Int32)), (0, .ref (bb 0)), (1, .int x1), (2, .int x2)]) hx hb dX1_standsAt_1 rfl hl (Nat.le_of_ble_eq_true rfl) rfl (fun ls hl => ?_)
  obtain ⟨z5, hz6, h⟩ := bd_ex h
  refine kX1_standsAt_2 K F bb σbb x1 x2 (fun ht H locs ls hP hD hS hl => ?_) (fun ht H locs ls hP hD hS hl => ?_) F (0 : Int32) _ _ _ hP hD hS (lv_sub hl [1, 2, 3, 0] rfl) hz6
  · have h := if_t ht h
    refine lv_iconst (v := 1) hx hb dX1_standsAt_30 li_1 ?_
    cases h
    exact rt_z K (Or.inr rfl) hP hD hS dX1_standsAt_31
  · have h := if_f (by rw [ht]; decide) h
    refine lv_iconst (v := 0) hx hb dX1_standsAt_38 li_0 ?_
    cases h
    exact rt_z K (Or.inl rfl) hP hD hS dX1_standsAt_39
def gbX1_inColumn_4 (F : Nat) (σbb : ST) (v1 : Int32) (rc : Int32 → Int32 → Option (Int32 × Int32)) (v2 : Int32) (v3 : Int32) : Option (Int32 × Int32) :=
  if (σbb.1 3) ≤ v3 then
    some (v2, v3)
  else
    if v3 < 0 ∨ 8 ≤ v3.toNatClampNeg then none else
    if (σbb.2.1 1 v3.toNatClampNeg) = v1 then
      rc (v2 + (1 : Int32)) (v3 + 1)
    else
      rc (v2 + (0 : Int32)) (v3 + 1)
def gX1_inColumn_4 (F : Nat) (σbb : ST) (v1 : Int32) : Nat → Int32 → Int32 → Option (Int32 × Int32)
  | 0, _, _ => none
  | n + 1, v2, v3 => gbX1_inColumn_4 F σbb v1 (gX1_inColumn_4 F σbb v1 n) v2 v3
set_option maxHeartbeats 4000000 in
set_option maxRecDepth 100000 in
theorem kX1_inColumn_4 {p : Program} {l : Launch} {e : Env} {s : State} {m : MethodId} {args : Array Value} {below : List Frame} {meth : Method} {c : Code} {A : Nat → Prop} {Q : State → Prop} {G : GP} (K : Cx p s m meth c G cX1_inColumn RX1 4 (some .int) args A) (F : Nat) (bb : Nat → Nat) (σbb : ST) (v1 : Int32) {z : Int32 × Int32} (kk : ∀ (H : Heap) (locs : List Loc) (ls : Array Slot), va_P G.1 vwCl (List.flatten [wB G bb σbb]) H → va_D A (List.flatten [wB G bb σbb]) → va_S A s.heap H locs → lv_has ls 4 [(0, .ref (bb 0)), (1, .int v1), (2, .int z.1), (3, .int z.2)] → W p l e (RM 1) s m args below meth c H locs 0 0 Q (F0 m 36 ls [])) :
    ∀ (n : Nat) (v2 : Int32) (v3 : Int32) (H : Heap) (locs : List Loc) (ls : Array Slot), va_P G.1 vwCl (List.flatten [wB G bb σbb]) H → va_D A (List.flatten [wB G bb σbb]) → va_S A s.heap H locs → lv_has ls 4 [(0, .ref (bb 0)), (1, .int v1), (2, .int v2), (3, .int v3)] → gX1_inColumn_4 F σbb v1 n v2 v3 = some z → W p l e (RM 1) s m args below meth c H locs 0 0 Q (F0 m 4 ls []) := by
  obtain ⟨hx, hb, hr, hml, hts, hown, hlocks, hA, hG⟩ := id K
  intro n
  induction n with
  | zero =>
    intro v2 v3 H locs ls hP hD hS hl h
    have h : none = some z := h
    cases h
  | succ n ih =>
    intro v2 v3 H locs ls hP hD hS hl h
    have h : gbX1_inColumn_4 F σbb v1 (gX1_inColumn_4 F σbb v1 n) v2 v3 = some z := h
    unfold gbX1_inColumn_4 at h
    refine lv_iload_n hx hb dX1_inColumn_4 rfl (lv_at hl 3 rfl) ?_
    refine lv_aload_n hx hb dX1_inColumn_5 rfl (lv_at hl 0 rfl) ?_
    refine va_get (D := G.1) (cl := vwCl) (tys := tysG G) (ci := 1) (v := .int (σbb.1 3)) (C := RX1) (T := TX1) (N := 4) hx hb hts iX1 hown hG.1 hP 0 rfl rfl 3 (Nat.le_of_ble_eq_true rfl) (hts _ tw_1_74) (fun _ h9 => h9) rfl dX1_inColumn_6 ?_
    refine lv_icmp_ge (tgt := 36) hx hb dX1_inColumn_9 (by decide) (fun c1 => ?_) (fun c1 => ?_)
    · have h := if_t c1 h
      cases h
      exact kk _ _ _ hP hD hS (lv_sub hl [0, 1, 2, 3] rfl)
    · have h := if_f c1 h
      refine lv_iload_n hx hb dX1_inColumn_12 rfl (lv_at hl 2 rfl) ?_
      refine lv_aload_n hx hb dX1_inColumn_13 rfl (lv_at hl 0 rfl) ?_
      refine va_get (D := G.1) (cl := vwCl) (tys := tysG G) (ci := 1) (v := .ref (bb 2)) (C := RX1) (T := TX1) (N := 4) hx hb hts iX1 hown hG.1 hP 0 rfl rfl 1 (Nat.le_of_ble_eq_true rfl) (hts _ tw_1_66) (fun _ h9 => h9) rfl dX1_inColumn_14 ?_
      refine lv_iload_n hx hb dX1_inColumn_17 rfl (lv_at hl 3 rfl) ?_
      obtain ⟨ck2, h⟩ := ck h
      refine va_iald hx hb hG.1 hP 2 0 rfl rfl ck2 dX1_inColumn_18 ?_
      refine lv_iload_n hx hb dX1_inColumn_19 rfl (lv_at hl 1 rfl) ?_
      refine lv_icmp_ne (tgt := 27) hx hb dX1_inColumn_20 (by decide) (fun c3 => ?_) (fun c3 => ?_)
      · have h := if_f c3 h
        refine lv_iconst (v := 0) hx hb dX1_inColumn_27 li_0 ?_
        refine lv_iadd hx hb dX1_inColumn_28 ?_
        refine lv_istore_n (lv' := [(2, .int (v2 + (0 : Int32))), (0, .ref (bb 0)), (1, .int v1), (3, .int v3)]) hx hb dX1_inColumn_29 rfl hl (Nat.le_of_ble_eq_true rfl) rfl (fun ls hl => ?_)
        refine lv_iinc (v := v3 + 1) (lv' := [(3, .int (v3 + 1)), (2, .int (v2 + (0 : Int32))), (0, .ref (bb 0)), (1, .int v1)]) hx hb dX1_inColumn_30 hl (k := 3) rfl (by rw [li_1]) (Nat.le_of_ble_eq_true rfl) rfl (fun ls hl => ?_)
        refine lv_goto (tgt := 4) hx hb dX1_inColumn_33 (by decide) ?_
        exact ih (v2 + (0 : Int32)) (v3 + 1) _ _ _ hP hD hS (lv_sub hl [2, 3, 1, 0] rfl) h
      · have h := if_t c3 h
        refine lv_iconst (v := 1) hx hb dX1_inColumn_23 li_1 ?_
        refine lv_goto (tgt := 28) hx hb dX1_inColumn_24 (by decide) ?_
        refine lv_iadd hx hb dX1_inColumn_28 ?_
        refine lv_istore_n (lv' := [(2, .int (v2 + (1 : Int32))), (0, .ref (bb 0)), (1, .int v1), (3, .int v3)]) hx hb dX1_inColumn_29 rfl hl (Nat.le_of_ble_eq_true rfl) rfl (fun ls hl => ?_)
        refine lv_iinc (v := v3 + 1) (lv' := [(3, .int (v3 + 1)), (2, .int (v2 + (1 : Int32))), (0, .ref (bb 0)), (1, .int v1)]) hx hb dX1_inColumn_30 hl (k := 3) rfl (by rw [li_1]) (Nat.le_of_ble_eq_true rfl) rfl (fun ls hl => ?_)
        refine lv_goto (tgt := 4) hx hb dX1_inColumn_33 (by decide) ?_
        exact ih (v2 + (1 : Int32)) (v3 + 1) _ _ _ hP hD hS (lv_sub hl [2, 3, 1, 0] rfl) h
def fX1_inColumn (F : Nat) (σbb : ST) (x1 : Int32) : Option (Int32) :=
  (gX1_inColumn_4 F σbb x1 F (0 : Int32) (0 : Int32)).bind fun z4 =>
    some z4.1
theorem cdX1_inColumn : CallD yX1_inColumn 1 := by decide +kernel
set_option maxHeartbeats 4000000 in
set_option maxRecDepth 100000 in
theorem mX1_inColumn (l : Launch) (G : GP) (F : Nat) (bb : Nat → Nat) (σbb : ST) (x1 : Int32) {r : Int32} (h : fX1_inColumn F σbb x1 = some r) : CC l G yX1_inColumn cX1_inColumn 4 (some .int) 1 [.ref (bb 0), .int x1] (List.flatten [wB G bb σbb]) (List.flatten [wB G bb σbb]) (some (.int r)) := by
  refine CC.of (by decide) (Nat.le_of_ble_eq_true rfl) ?_
  intro p e s m below meth c A K hP hD hS ls hl
  obtain ⟨hx, hb, hr, hml, hts, hown, hlocks, hA, hG⟩ := id K
  have hl : lv_has ls 4 [(0, .ref (bb 0)), (1, .int x1)] := hl
  unfold fX1_inColumn at h
  refine lv_iconst (v := 0) hx hb dX1_inColumn_0 li_0 ?_
  refine lv_istore_n (lv' := [(2, .int (0 : Int32)), (0, .ref (bb 0)), (1, .int x1)]) hx hb dX1_inColumn_1 rfl hl (Nat.le_of_ble_eq_true rfl) rfl (fun ls hl => ?_)
  refine lv_iconst (v := 0) hx hb dX1_inColumn_2 li_0 ?_
  refine lv_istore_n (lv' := [(3, .int (0 : Int32)), (2, .int (0 : Int32)), (0, .ref (bb 0)), (1, .int x1)]) hx hb dX1_inColumn_3 rfl hl (Nat.le_of_ble_eq_true rfl) rfl (fun ls hl => ?_)
  obtain ⟨z4, hz5, h⟩ := bd_ex h
  refine kX1_inColumn_4 K F bb σbb x1 (fun H locs ls hP hD hS hl => ?_) F (0 : Int32) (0 : Int32) _ _ _ hP hD hS (lv_sub hl [2, 3, 1, 0] rfl) hz5
  refine lv_iload_n hx hb dX1_inColumn_36 rfl (lv_at hl 2 rfl) ?_
  cases h
  exact rt_i K hP hD hS dX1_inColumn_37
def fX1_renumber (F : Nat) (σbb : ST) (x1 : Int32) (x2 : Int32) : Option (ST) :=
  if x1 < 0 ∨ 8 ≤ x1.toNatClampNeg then none else
  if x2 < 0 ∨ 8 ≤ x2.toNatClampNeg then none else
  nm (sA σbb 0 x2.toNatClampNeg (σbb.2.1 0 x1.toNatClampNeg)) fun (s3 : ST) =>
  nm (sA s3 1 x2.toNatClampNeg (s3.2.1 1 x1.toNatClampNeg)) fun (s5 : ST) =>
  nm (sA s5 2 x2.toNatClampNeg (s5.2.1 2 x1.toNatClampNeg)) fun (s7 : ST) =>
  some s7
theorem cdX1_renumber : CallD yX1_renumber 2 := by decide +kernel
set_option maxHeartbeats 4000000 in
set_option maxRecDepth 100000 in
theorem mX1_renumber (l : Launch) (G : GP) (F : Nat) (bb : Nat → Nat) (σbb : ST) (x1 : Int32) (x2 : Int32) {r : ST} (h : fX1_renumber F σbb x1 x2 = some r) : CC l G yX1_renumber cX1_renumber 3 none 1 [.ref (bb 0), .int x1, .int x2] (List.flatten [wB G bb σbb]) (List.flatten [wB G bb r]) none := by
  refine CC.of (by decide) (Nat.le_of_ble_eq_true rfl) ?_
  intro p e s m below meth c A K hP hD hS ls hl
  obtain ⟨hx, hb, hr, hml, hts, hown, hlocks, hA, hG⟩ := id K
  have hl : lv_has ls 3 [(0, .ref (bb 0)), (1, .int x1), (2, .int x2)] := hl
  unfold fX1_renumber at h
  refine lv_aload_n hx hb dX1_renumber_0 rfl (lv_at hl 0 rfl) ?_
  refine va_get (D := G.1) (cl := vwCl) (tys := tysG G) (ci := 1) (v := .ref (bb 1)) (C := RX1) (T := TX1) (N := 4) hx hb hts iX1 hown hG.1 hP 0 rfl rfl 0 (Nat.le_of_ble_eq_true rfl) (hts _ tw_1_63) (fun _ h9 => h9) rfl dX1_renumber_1 ?_
  refine lv_iload_n hx hb dX1_renumber_4 rfl (lv_at hl 2 rfl) ?_
  refine lv_aload_n hx hb dX1_renumber_5 rfl (lv_at hl 0 rfl) ?_
  refine va_get (D := G.1) (cl := vwCl) (tys := tysG G) (ci := 1) (v := .ref (bb 1)) (C := RX1) (T := TX1) (N := 4) hx hb hts iX1 hown hG.1 hP 0 rfl rfl 0 (Nat.le_of_ble_eq_true rfl) (hts _ tw_1_63) (fun _ h9 => h9) rfl dX1_renumber_6 ?_
  refine lv_iload_n hx hb dX1_renumber_9 rfl (lv_at hl 1 rfl) ?_
  obtain ⟨ck1, h⟩ := ck h
  refine va_iald hx hb hG.1 hP 1 0 rfl rfl ck1 dX1_renumber_10 ?_
  obtain ⟨ck2, h⟩ := ck h
  obtain ⟨s3, e4, h⟩ := nm_ex h
  refine va_iast hx hb hG.1 hP hD hS 1 0 rfl rfl ck2 dX1_renumber_11 (fun H locs hP hD hS => ?_)
  have hP : va_P G.1 vwCl (List.flatten [wB G bb s3]) H := by rw [e4]; exact hP
  have hD : va_D A (List.flatten [wB G bb s3]) := by rw [e4]; exact hD
  refine lv_aload_n hx hb dX1_renumber_12 rfl (lv_at hl 0 rfl) ?_
  refine va_get (D := G.1) (cl := vwCl) (tys := tysG G) (ci := 1) (v := .ref (bb 2)) (C := RX1) (T := TX1) (N := 4) hx hb hts iX1 hown hG.1 hP 0 rfl rfl 1 (Nat.le_of_ble_eq_true rfl) (hts _ tw_1_66) (fun _ h9 => h9) rfl dX1_renumber_13 ?_
  refine lv_iload_n hx hb dX1_renumber_16 rfl (lv_at hl 2 rfl) ?_
  refine lv_aload_n hx hb dX1_renumber_17 rfl (lv_at hl 0 rfl) ?_
  refine va_get (D := G.1) (cl := vwCl) (tys := tysG G) (ci := 1) (v := .ref (bb 2)) (C := RX1) (T := TX1) (N := 4) hx hb hts iX1 hown hG.1 hP 0 rfl rfl 1 (Nat.le_of_ble_eq_true rfl) (hts _ tw_1_66) (fun _ h9 => h9) rfl dX1_renumber_18 ?_
  refine lv_iload_n hx hb dX1_renumber_21 rfl (lv_at hl 1 rfl) ?_
  refine va_iald hx hb hG.1 hP 2 0 rfl rfl ck1 dX1_renumber_22 ?_
  obtain ⟨s5, e6, h⟩ := nm_ex h
  refine va_iast hx hb hG.1 hP hD hS 2 0 rfl rfl ck2 dX1_renumber_23 (fun H locs hP hD hS => ?_)
  have hP : va_P G.1 vwCl (List.flatten [wB G bb s5]) H := by rw [e6]; exact hP
  have hD : va_D A (List.flatten [wB G bb s5]) := by rw [e6]; exact hD
  refine lv_aload_n hx hb dX1_renumber_24 rfl (lv_at hl 0 rfl) ?_
  refine va_get (D := G.1) (cl := vwCl) (tys := tysG G) (ci := 1) (v := .ref (bb 3)) (C := RX1) (T := TX1) (N := 4) hx hb hts iX1 hown hG.1 hP 0 rfl rfl 2 (Nat.le_of_ble_eq_true rfl) (hts _ tw_1_70) (fun _ h9 => h9) rfl dX1_renumber_25 ?_
  refine lv_iload_n hx hb dX1_renumber_28 rfl (lv_at hl 2 rfl) ?_
  refine lv_aload_n hx hb dX1_renumber_29 rfl (lv_at hl 0 rfl) ?_
  refine va_get (D := G.1) (cl := vwCl) (tys := tysG G) (ci := 1) (v := .ref (bb 3)) (C := RX1) (T := TX1) (N := 4) hx hb hts iX1 hown hG.1 hP 0 rfl rfl 2 (Nat.le_of_ble_eq_true rfl) (hts _ tw_1_70) (fun _ h9 => h9) rfl dX1_renumber_30 ?_
  refine lv_iload_n hx hb dX1_renumber_33 rfl (lv_at hl 1 rfl) ?_
  refine va_iald hx hb hG.1 hP 3 0 rfl rfl ck1 dX1_renumber_34 ?_
  obtain ⟨s7, e8, h⟩ := nm_ex h
  refine va_iast hx hb hG.1 hP hD hS 3 0 rfl rfl ck2 dX1_renumber_35 (fun H locs hP hD hS => ?_)
  have hP : va_P G.1 vwCl (List.flatten [wB G bb s7]) H := by rw [e8]; exact hP
  have hD : va_D A (List.flatten [wB G bb s7]) := by rw [e8]; exact hD
  cases h
  exact rt_v K hP hD hS dX1_renumber_36
def gbX1_insert_29 (F : Nat) (v1 : Int32) (v2 : Int32) (v3 : Int32) (v4 : Int32) (rc : Int32 → ST → Option (Int32 × ST)) (v5 : Int32) (σbb : ST) : Option (Int32 × ST) :=
  if v5 ≤ v1 then
    some (v5, σbb)
  else
    (fX1_renumber F σbb (v5 - (1 : Int32)) v5).bind fun r6 =>
    rc (v5 + (-1)) r6
def gX1_insert_29 (F : Nat) (v1 : Int32) (v2 : Int32) (v3 : Int32) (v4 : Int32) : Nat → Int32 → ST → Option (Int32 × ST)
  | 0, _, _ => none
  | n + 1, v5, σbb => gbX1_insert_29 F v1 v2 v3 v4 (gX1_insert_29 F v1 v2 v3 v4 n) v5 σbb
set_option maxHeartbeats 4000000 in
set_option maxRecDepth 100000 in
theorem kX1_insert_29 {p : Program} {l : Launch} {e : Env} {s : State} {m : MethodId} {args : Array Value} {below : List Frame} {meth : Method} {c : Code} {A : Nat → Prop} {Q : State → Prop} {G : GP} (K : Cx p s m meth c G cX1_insert RX1 6 none args A) (F : Nat) (bb : Nat → Nat) (v1 : Int32) (v2 : Int32) (v3 : Int32) (v4 : Int32) {z : Int32 × ST} (kk : ∀ (H : Heap) (locs : List Loc) (ls : Array Slot), va_P G.1 vwCl (List.flatten [wB G bb z.2]) H → va_D A (List.flatten [wB G bb z.2]) → va_S A s.heap H locs → lv_has ls 6 [(0, .ref (bb 0)), (1, .int v1), (2, .int v2), (3, .int v3), (4, .int v4), (5, .int z.1)] → W p l e (RM 2) s m args below meth c H locs 0 0 Q (F0 m 51 ls [])) :
    ∀ (n : Nat) (v5 : Int32) (σbb : ST) (H : Heap) (locs : List Loc) (ls : Array Slot), va_P G.1 vwCl (List.flatten [wB G bb σbb]) H → va_D A (List.flatten [wB G bb σbb]) → va_S A s.heap H locs → lv_has ls 6 [(0, .ref (bb 0)), (1, .int v1), (2, .int v2), (3, .int v3), (4, .int v4), (5, .int v5)] → gX1_insert_29 F v1 v2 v3 v4 n v5 σbb = some z → W p l e (RM 2) s m args below meth c H locs 0 0 Q (F0 m 29 ls []) := by
  obtain ⟨hx, hb, hr, hml, hts, hown, hlocks, hA, hG⟩ := id K
  intro n
  induction n with
  | zero =>
    intro v5 σbb H locs ls hP hD hS hl h
    have h : none = some z := h
    cases h
  | succ n ih =>
    intro v5 σbb H locs ls hP hD hS hl h
    have h : gbX1_insert_29 F v1 v2 v3 v4 (gX1_insert_29 F v1 v2 v3 v4 n) v5 σbb = some z := h
    unfold gbX1_insert_29 at h
    refine lv_iload hx hb dX1_insert_29 (lv_at hl 5 rfl) ?_
    refine lv_iload_n hx hb dX1_insert_31 rfl (lv_at hl 1 rfl) ?_
    refine lv_icmp_le (tgt := 51) hx hb dX1_insert_32 (by decide) (fun c5 => ?_) (fun c5 => ?_)
    · have h := if_t c5 h
      cases h
      exact kk _ _ _ hP hD hS (lv_sub hl [0, 1, 2, 3, 4, 5] rfl)
    · have h := if_f c5 h
      refine lv_aload_n hx hb dX1_insert_35 rfl (lv_at hl 0 rfl) ?_
      refine lv_iload hx hb dX1_insert_36 (lv_at hl 5 rfl) ?_
      refine lv_iconst (v := 1) hx hb dX1_insert_38 li_1 ?_
      refine lv_isub hx hb dX1_insert_39 ?_
      refine lv_iload hx hb dX1_insert_40 (lv_at hl 5 rfl) ?_
      obtain ⟨r6, hc7, h⟩ := bd_ex h
      refine sl_V (q0 := 0) (ci := 1) (C := RX1) K (mX1_renumber l G F bb σbb (v5 - (1 : Int32)) v5 hc7) tw_3_3 tw_1_5 tw_3_1 tw_3_2 tw_3_0 cdX1_renumber ⟨Nat.le_of_ble_eq_true rfl, Nat.le_of_ble_eq_true rfl⟩ hP hD hS [0] rfl rfl rfl rfl rfl rfl rfl hl.1 (Nat.le_of_ble_eq_true rfl) ⟨Nat.zero_le _, Nat.zero_le _⟩ dX1_insert_42 (fun H locs hP hD hS => ?_)
      have hP : va_P G.1 vwCl (List.flatten [wB G bb r6]) H := hP
      have hD : va_D A (List.flatten [wB G bb r6]) := hD
      refine lv_iinc (v := v5 + (-1)) (lv' := [(5, .int (v5 + (-1))), (0, .ref (bb 0)), (1, .int v1), (2, .int v2), (3, .int v3), (4, .int v4)]) hx hb dX1_insert_45 hl (k := 5) rfl (by rw [li_m1]) (Nat.le_of_ble_eq_true rfl) rfl (fun ls hl => ?_)
      refine lv_goto (tgt := 29) hx hb dX1_insert_48 (by decide) ?_
      exact ih (v5 + (-1)) r6 _ _ _ hP hD hS (lv_sub hl [1, 2, 3, 4, 5, 0] rfl) h
def fX1_insert (F : Nat) (σbb : ST) (x1 : Int32) (x2 : Int32) (x3 : Int32) (x4 : Int32) : Option (ST) :=
  if (8 : Int32) ≤ (σbb.1 3) then
    some σbb
  else
    (fX10_isBelow F x1 ((σbb.1 3) + (1 : Int32))).bind fun r2 =>
    if r2 = 0 then
      some σbb
    else
      (gX1_insert_29 F x1 x2 x3 x4 F (σbb.1 3) σbb).bind fun z8 =>
        if x1 < 0 ∨ 8 ≤ x1.toNatClampNeg then none else
        nm (sA z8.2 0 x1.toNatClampNeg x2) fun (s11 : ST) =>
        nm (sA s11 1 x1.toNatClampNeg x3) fun (s13 : ST) =>
        nm (sA s13 2 x1.toNatClampNeg x4) fun (s15 : ST) =>
        nm (sI s15 3 ((s15.1 3) + (1 : Int32))) fun (s17 : ST) =>
        some s17
theorem cdX1_insert : CallD yX1_insert 4 := by decide +kernel
set_option maxHeartbeats 4000000 in
set_option maxRecDepth 100000 in
theorem mX1_insert (l : Launch) (G : GP) (F : Nat) (bb : Nat → Nat) (σbb : ST) (x1 : Int32) (x2 : Int32) (x3 : Int32) (x4 : Int32) {r : ST} (h : fX1_insert F σbb x1 x2 x3 x4 = some r) : CC l G yX1_insert cX1_insert 6 none 2 [.ref (bb 0), .int x1, .int x2, .int x3, .int x4] (List.flatten [wB G bb σbb]) (List.flatten [wB G bb r]) none := by
  refine CC.of (by decide) (Nat.le_of_ble_eq_true rfl) ?_
  intro p e s m below meth c A K hP hD hS ls hl
  obtain ⟨hx, hb, hr, hml, hts, hown, hlocks, hA, hG⟩ := id K
  have hl : lv_has ls 6 [(0, .ref (bb 0)), (1, .int x1), (2, .int x2), (3, .int x3), (4, .int x4)] := hl
  unfold fX1_insert at h
  refine lv_aload_n hx hb dX1_insert_0 rfl (lv_at hl 0 rfl) ?_
  refine va_get (D := G.1) (cl := vwCl) (tys := tysG G) (ci := 1) (v := .int (σbb.1 3)) (C := RX1) (T := TX1) (N := 4) hx hb hts iX1 hown hG.1 hP 0 rfl rfl 3 (Nat.le_of_ble_eq_true rfl) (hts _ tw_1_74) (fun _ h9 => h9) rfl dX1_insert_1 ?_
  refine lv_bipush (v := 8) hx hb dX1_insert_4 lb_8 ?_
  refine lv_icmp_ge (tgt := 22) hx hb dX1_insert_6 (by decide) (fun c1 => ?_) (fun c1 => ?_)
  · have h := if_t c1 h
    cases h
    exact rt_v K hP hD hS dX1_insert_22
  · have h := if_f c1 h
    refine lv_iload_n hx hb dX1_insert_9 rfl (lv_at hl 1 rfl) ?_
    refine lv_aload_n hx hb dX1_insert_10 rfl (lv_at hl 0 rfl) ?_
    refine va_get (D := G.1) (cl := vwCl) (tys := tysG G) (ci := 1) (v := .int (σbb.1 3)) (C := RX1) (T := TX1) (N := 4) hx hb hts iX1 hown hG.1 hP 0 rfl rfl 3 (Nat.le_of_ble_eq_true rfl) (hts _ tw_1_74) (fun _ h9 => h9) rfl dX1_insert_11 ?_
    refine lv_iconst (v := 1) hx hb dX1_insert_14 li_1 ?_
    refine lv_iadd hx hb dX1_insert_15 ?_
    obtain ⟨r2, hc3, h⟩ := bd_ex h
    refine sl_SN K (mX10_isBelow l G F x1 ((σbb.1 3) + (1 : Int32)) hc3) tw_2_194 tw_1_1 tw_2_193 tw_2_239 cdX10_isBelow ⟨Nat.le_of_ble_eq_true rfl, Nat.le_of_ble_eq_true rfl⟩ hP hD hS [] rfl rfl rfl rfl hl.1 (Nat.le_of_ble_eq_true rfl) ⟨Nat.zero_le _, Nat.zero_le _⟩ dX1_insert_16 (fun H locs hP hD hS => ?_)
    have hP : va_P G.1 vwCl (List.flatten [wB G bb σbb]) H := hP
    have hD : va_D A (List.flatten [wB G bb σbb]) := hD
    refine lv_if_ne (tgt := 23) hx hb dX1_insert_19 (by decide) (fun c4 => ?_) (fun c4 => ?_)
    · have h := if_f c4 h
      refine lv_aload_n hx hb dX1_insert_23 rfl (lv_at hl 0 rfl) ?_
      refine va_get (D := G.1) (cl := vwCl) (tys := tysG G) (ci := 1) (v := .int (σbb.1 3)) (C := RX1) (T := TX1) (N := 4) hx hb hts iX1 hown hG.1 hP 0 rfl rfl 3 (Nat.le_of_ble_eq_true rfl) (hts _ tw_1_74) (fun _ h9 => h9) rfl dX1_insert_24 ?_
      refine lv_istore (lv' := [(5, .int (σbb.1 3)), (0, .ref (bb 0)), (1, .int x1), (2, .int x2), (3, .int x3), (4, .int x4)]) hx hb dX1_insert_27 hl (Nat.le_of_ble_eq_true rfl) rfl (fun ls hl => ?_)
      obtain ⟨z8, hz9, h⟩ := bd_ex h
      refine kX1_insert_29 K F bb x1 x2 x3 x4 (fun H locs ls hP hD hS hl => ?_) F (σbb.1 3) σbb _ _ _ hP hD hS (lv_sub hl [1, 2, 3, 4, 5, 0] rfl) hz9
      refine lv_aload_n hx hb dX1_insert_51 rfl (lv_at hl 0 rfl) ?_
      refine va_get (D := G.1) (cl := vwCl) (tys := tysG G) (ci := 1) (v := .ref (bb 1)) (C := RX1) (T := TX1) (N := 4) hx hb hts iX1 hown hG.1 hP 0 rfl rfl 0 (Nat.le_of_ble_eq_true rfl) (hts _ tw_1_63) (fun _ h9 => h9) rfl dX1_insert_52 ?_
      refine lv_iload_n hx hb dX1_insert_55 rfl (lv_at hl 1 rfl) ?_
      refine lv_iload_n hx hb dX1_insert_56 rfl (lv_at hl 2 rfl) ?_
      obtain ⟨ck10, h⟩ := ck h
      obtain ⟨s11, e12, h⟩ := nm_ex h
      refine va_iast hx hb hG.1 hP hD hS 1 0 rfl rfl ck10 dX1_insert_57 (fun H locs hP hD hS => ?_)
      have hP : va_P G.1 vwCl (List.flatten [wB G bb s11]) H := by rw [e12]; exact hP
      have hD : va_D A (List.flatten [wB G bb s11]) := by rw [e12]; exact hD
      refine lv_aload_n hx hb dX1_insert_58 rfl (lv_at hl 0 rfl) ?_
      refine va_get (D := G.1) (cl := vwCl) (tys := tysG G) (ci := 1) (v := .ref (bb 2)) (C := RX1) (T := TX1) (N := 4) hx hb hts iX1 hown hG.1 hP 0 rfl rfl 1 (Nat.le_of_ble_eq_true rfl) (hts _ tw_1_66) (fun _ h9 => h9) rfl dX1_insert_59 ?_
      refine lv_iload_n hx hb dX1_insert_62 rfl (lv_at hl 1 rfl) ?_
      refine lv_iload_n hx hb dX1_insert_63 rfl (lv_at hl 3 rfl) ?_
      obtain ⟨s13, e14, h⟩ := nm_ex h
      refine va_iast hx hb hG.1 hP hD hS 2 0 rfl rfl ck10 dX1_insert_64 (fun H locs hP hD hS => ?_)
      have hP : va_P G.1 vwCl (List.flatten [wB G bb s13]) H := by rw [e14]; exact hP
      have hD : va_D A (List.flatten [wB G bb s13]) := by rw [e14]; exact hD
      refine lv_aload_n hx hb dX1_insert_65 rfl (lv_at hl 0 rfl) ?_
      refine va_get (D := G.1) (cl := vwCl) (tys := tysG G) (ci := 1) (v := .ref (bb 3)) (C := RX1) (T := TX1) (N := 4) hx hb hts iX1 hown hG.1 hP 0 rfl rfl 2 (Nat.le_of_ble_eq_true rfl) (hts _ tw_1_70) (fun _ h9 => h9) rfl dX1_insert_66 ?_
      refine lv_iload_n hx hb dX1_insert_69 rfl (lv_at hl 1 rfl) ?_
      refine lv_iload hx hb dX1_insert_70 (lv_at hl 4 rfl) ?_
      obtain ⟨s15, e16, h⟩ := nm_ex h
      refine va_iast hx hb hG.1 hP hD hS 3 0 rfl rfl ck10 dX1_insert_72 (fun H locs hP hD hS => ?_)
      have hP : va_P G.1 vwCl (List.flatten [wB G bb s15]) H := by rw [e16]; exact hP
      have hD : va_D A (List.flatten [wB G bb s15]) := by rw [e16]; exact hD
      refine lv_aload_n hx hb dX1_insert_73 rfl (lv_at hl 0 rfl) ?_
      refine lv_dup hx hb dX1_insert_74 rfl ?_
      refine va_get (D := G.1) (cl := vwCl) (tys := tysG G) (ci := 1) (v := .int (s15.1 3)) (C := RX1) (T := TX1) (N := 4) hx hb hts iX1 hown hG.1 hP 0 rfl rfl 3 (Nat.le_of_ble_eq_true rfl) (hts _ tw_1_74) (fun _ h9 => h9) rfl dX1_insert_75 ?_
      refine lv_iconst (v := 1) hx hb dX1_insert_78 li_1 ?_
      refine lv_iadd hx hb dX1_insert_79 ?_
      obtain ⟨s17, e18, h⟩ := nm_ex h
      refine va_put (D := G.1) (cl := vwCl) (tys := tysG G) (ci := 1) (v := .int ((s15.1 3) + (1 : Int32))) (ty := .int) (C := RX1) (T := TX1) (N := 4) hx hb hts iX1 tyX1 tyX1_ok nmX1 hown hG.1 hP hD hS 0 rfl rfl 3 (Nat.le_of_ble_eq_true rfl) (hts _ tw_1_74) (fun _ h9 => h9) rfl (by decide +kernel) rfl rfl (Nat.le_of_ble_eq_true rfl) dX1_insert_80 (fun H locs hP hD hS => ?_)
      have hP : va_P G.1 vwCl (List.flatten [wB G bb s17]) H := by rw [e18]; exact hP
      have hD : va_D A (List.flatten [wB G bb s17]) := by rw [e18]; exact hD
      cases h
      exact rt_v K hP hD hS dX1_insert_83
    · have h := if_t c4 h
      cases h
      exact rt_v K hP hD hS dX1_insert_22
def gbX1_remove_11 (F : Nat) (v1 : Int32) (rc : Int32 → ST → Option (Int32 × ST)) (v2 : Int32) (σbb : ST) : Option (Int32 × ST) :=
  if ((σbb.1 3) - (1 : Int32)) ≤ v2 then
    some (v2, σbb)
  else
    (fX1_renumber F σbb (v2 + (1 : Int32)) v2).bind fun r5 =>
    rc (v2 + 1) r5
def gX1_remove_11 (F : Nat) (v1 : Int32) : Nat → Int32 → ST → Option (Int32 × ST)
  | 0, _, _ => none
  | n + 1, v2, σbb => gbX1_remove_11 F v1 (gX1_remove_11 F v1 n) v2 σbb
set_option maxHeartbeats 4000000 in
set_option maxRecDepth 100000 in
theorem kX1_remove_11 {p : Program} {l : Launch} {e : Env} {s : State} {m : MethodId} {args : Array Value} {below : List Frame} {meth : Method} {c : Code} {A : Nat → Prop} {Q : State → Prop} {G : GP} (K : Cx p s m meth c G cX1_remove RX1 3 none args A) (F : Nat) (bb : Nat → Nat) (v1 : Int32) {z : Int32 × ST} (kk : ∀ (H : Heap) (locs : List Loc) (ls : Array Slot), va_P G.1 vwCl (List.flatten [wB G bb z.2]) H → va_D A (List.flatten [wB G bb z.2]) → va_S A s.heap H locs → lv_has ls 3 [(0, .ref (bb 0)), (1, .int v1), (2, .int z.1)] → W p l e (RM 3) s m args below meth c H locs 0 0 Q (F0 m 35 ls [])) :
    ∀ (n : Nat) (v2 : Int32) (σbb : ST) (H : Heap) (locs : List Loc) (ls : Array Slot), va_P G.1 vwCl (List.flatten [wB G bb σbb]) H → va_D A (List.flatten [wB G bb σbb]) → va_S A s.heap H locs → lv_has ls 3 [(0, .ref (bb 0)), (1, .int v1), (2, .int v2)] → gX1_remove_11 F v1 n v2 σbb = some z → W p l e (RM 3) s m args below meth c H locs 0 0 Q (F0 m 11 ls []) := by
  obtain ⟨hx, hb, hr, hml, hts, hown, hlocks, hA, hG⟩ := id K
  intro n
  induction n with
  | zero =>
    intro v2 σbb H locs ls hP hD hS hl h
    have h : none = some z := h
    cases h
  | succ n ih =>
    intro v2 σbb H locs ls hP hD hS hl h
    have h : gbX1_remove_11 F v1 (gX1_remove_11 F v1 n) v2 σbb = some z := h
    unfold gbX1_remove_11 at h
    refine lv_iload_n hx hb dX1_remove_11 rfl (lv_at hl 2 rfl) ?_
    refine lv_aload_n hx hb dX1_remove_12 rfl (lv_at hl 0 rfl) ?_
    refine va_get (D := G.1) (cl := vwCl) (tys := tysG G) (ci := 1) (v := .int (σbb.1 3)) (C := RX1) (T := TX1) (N := 4) hx hb hts iX1 hown hG.1 hP 0 rfl rfl 3 (Nat.le_of_ble_eq_true rfl) (hts _ tw_1_74) (fun _ h9 => h9) rfl dX1_remove_13 ?_
    refine lv_iconst (v := 1) hx hb dX1_remove_16 li_1 ?_
    refine lv_isub hx hb dX1_remove_17 ?_
    refine lv_icmp_ge (tgt := 35) hx hb dX1_remove_18 (by decide) (fun c4 => ?_) (fun c4 => ?_)
    · have h := if_t c4 h
      cases h
      exact kk _ _ _ hP hD hS (lv_sub hl [0, 1, 2] rfl)
    · have h := if_f c4 h
      refine lv_aload_n hx hb dX1_remove_21 rfl (lv_at hl 0 rfl) ?_
      refine lv_iload_n hx hb dX1_remove_22 rfl (lv_at hl 2 rfl) ?_
      refine lv_iconst (v := 1) hx hb dX1_remove_23 li_1 ?_
      refine lv_iadd hx hb dX1_remove_24 ?_
      refine lv_iload_n hx hb dX1_remove_25 rfl (lv_at hl 2 rfl) ?_
      obtain ⟨r5, hc6, h⟩ := bd_ex h
      refine sl_V (q0 := 0) (ci := 1) (C := RX1) K (mX1_renumber l G F bb σbb (v2 + (1 : Int32)) v2 hc6) tw_3_3 tw_1_5 tw_3_1 tw_3_2 tw_3_0 cdX1_renumber ⟨Nat.le_of_ble_eq_true rfl, Nat.le_of_ble_eq_true rfl⟩ hP hD hS [0] rfl rfl rfl rfl rfl rfl rfl hl.1 (Nat.le_of_ble_eq_true rfl) ⟨Nat.zero_le _, Nat.zero_le _⟩ dX1_remove_26 (fun H locs hP hD hS => ?_)
      have hP : va_P G.1 vwCl (List.flatten [wB G bb r5]) H := hP
      have hD : va_D A (List.flatten [wB G bb r5]) := hD
      refine lv_iinc (v := v2 + 1) (lv' := [(2, .int (v2 + 1)), (0, .ref (bb 0)), (1, .int v1)]) hx hb dX1_remove_29 hl (k := 2) rfl (by rw [li_1]) (Nat.le_of_ble_eq_true rfl) rfl (fun ls hl => ?_)
      refine lv_goto (tgt := 11) hx hb dX1_remove_32 (by decide) ?_
      exact ih (v2 + 1) r5 _ _ _ hP hD hS (lv_sub hl [1, 2, 0] rfl) h
def fX1_remove (F : Nat) (σbb : ST) (x1 : Int32) : Option (ST) :=
  (fX1_has F σbb x1).bind fun r1 =>
  if r1 = 0 then
    some σbb
  else
    (gX1_remove_11 F x1 F x1 σbb).bind fun z7 =>
      nm (sI z7.2 3 ((z7.2.1 3) - (1 : Int32))) fun (s9 : ST) =>
      some s9
theorem cdX1_remove : CallD yX1_remove 1 := by decide +kernel
set_option maxHeartbeats 4000000 in
set_option maxRecDepth 100000 in
theorem mX1_remove (l : Launch) (G : GP) (F : Nat) (bb : Nat → Nat) (σbb : ST) (x1 : Int32) {r : ST} (h : fX1_remove F σbb x1 = some r) : CC l G yX1_remove cX1_remove 3 none 3 [.ref (bb 0), .int x1] (List.flatten [wB G bb σbb]) (List.flatten [wB G bb r]) none := by
  refine CC.of (by decide) (Nat.le_of_ble_eq_true rfl) ?_
  intro p e s m below meth c A K hP hD hS ls hl
  obtain ⟨hx, hb, hr, hml, hts, hown, hlocks, hA, hG⟩ := id K
  have hl : lv_has ls 3 [(0, .ref (bb 0)), (1, .int x1)] := hl
  unfold fX1_remove at h
  refine lv_aload_n hx hb dX1_remove_0 rfl (lv_at hl 0 rfl) ?_
  refine lv_iload_n hx hb dX1_remove_1 rfl (lv_at hl 1 rfl) ?_
  obtain ⟨r1, hc2, h⟩ := bd_ex h
  refine sl_V (q0 := 0) (ci := 1) (C := RX1) K (mX1_has l G F bb σbb x1 hc2) tw_3_50 tw_1_5 tw_3_48 tw_3_49 tw_3_100 cdX1_has ⟨Nat.le_of_ble_eq_true rfl, Nat.le_of_ble_eq_true rfl⟩ hP hD hS [0] rfl rfl rfl rfl rfl rfl rfl hl.1 (Nat.le_of_ble_eq_true rfl) ⟨Nat.zero_le _, Nat.zero_le _⟩ dX1_remove_2 (fun H locs hP hD hS => ?_)
  have hP : va_P G.1 vwCl (List.flatten [wB G bb σbb]) H := hP
  have hD : va_D A (List.flatten [wB G bb σbb]) := hD
  refine lv_if_ne (tgt := 9) hx hb dX1_remove_5 (by decide) (fun c3 => ?_) (fun c3 => ?_)
  · have h := if_f c3 h
    refine lv_iload_n hx hb dX1_remove_9 rfl (lv_at hl 1 rfl) ?_
    refine lv_istore_n (lv' := [(2, .int x1), (0, .ref (bb 0)), (1, .int x1)]) hx hb dX1_remove_10 rfl hl (Nat.le_of_ble_eq_true rfl) rfl (fun ls hl => ?_)
    obtain ⟨z7, hz8, h⟩ := bd_ex h
    refine kX1_remove_11 K F bb x1 (fun H locs ls hP hD hS hl => ?_) F x1 σbb _ _ _ hP hD hS (lv_sub hl [1, 2, 0] rfl) hz8
    refine lv_aload_n hx hb dX1_remove_35 rfl (lv_at hl 0 rfl) ?_
    refine lv_dup hx hb dX1_remove_36 rfl ?_
    refine va_get (D := G.1) (cl := vwCl) (tys := tysG G) (ci := 1) (v := .int (z7.2.1 3)) (C := RX1) (T := TX1) (N := 4) hx hb hts iX1 hown hG.1 hP 0 rfl rfl 3 (Nat.le_of_ble_eq_true rfl) (hts _ tw_1_74) (fun _ h9 => h9) rfl dX1_remove_37 ?_
    refine lv_iconst (v := 1) hx hb dX1_remove_40 li_1 ?_
    refine lv_isub hx hb dX1_remove_41 ?_
    obtain ⟨s9, e10, h⟩ := nm_ex h
    refine va_put (D := G.1) (cl := vwCl) (tys := tysG G) (ci := 1) (v := .int ((z7.2.1 3) - (1 : Int32))) (ty := .int) (C := RX1) (T := TX1) (N := 4) hx hb hts iX1 tyX1 tyX1_ok nmX1 hown hG.1 hP hD hS 0 rfl rfl 3 (Nat.le_of_ble_eq_true rfl) (hts _ tw_1_74) (fun _ h9 => h9) rfl (by decide +kernel) rfl rfl (Nat.le_of_ble_eq_true rfl) dX1_remove_42 (fun H locs hP hD hS => ?_)
    have hP : va_P G.1 vwCl (List.flatten [wB G bb s9]) H := by rw [e10]; exact hP
    have hD : va_D A (List.flatten [wB G bb s9]) := by rw [e10]; exact hD
    cases h
    exact rt_v K hP hD hS dX1_remove_45
  · have h := if_t c3 h
    cases h
    exact rt_v K hP hD hS dX1_remove_8
def gbX1_copyFrom_10 (F : Nat) (σoo : ST) (rc : Int32 → ST → Option (Int32 × ST)) (v2 : Int32) (σbb : ST) : Option (Int32 × ST) :=
  if (σbb.1 3) ≤ v2 then
    some (v2, σbb)
  else
    if v2 < 0 ∨ 8 ≤ v2.toNatClampNeg then none else
    nm (sA σbb 0 v2.toNatClampNeg (σoo.2.1 0 v2.toNatClampNeg)) fun (s5 : ST) =>
    nm (sA s5 1 v2.toNatClampNeg (σoo.2.1 1 v2.toNatClampNeg)) fun (s7 : ST) =>
    nm (sA s7 2 v2.toNatClampNeg (σoo.2.1 2 v2.toNatClampNeg)) fun (s9 : ST) =>
    rc (v2 + 1) s9
def gX1_copyFrom_10 (F : Nat) (σoo : ST) : Nat → Int32 → ST → Option (Int32 × ST)
  | 0, _, _ => none
  | n + 1, v2, σbb => gbX1_copyFrom_10 F σoo (gX1_copyFrom_10 F σoo n) v2 σbb
set_option maxHeartbeats 4000000 in
set_option maxRecDepth 100000 in
theorem kX1_copyFrom_10 {p : Program} {l : Launch} {e : Env} {s : State} {m : MethodId} {args : Array Value} {below : List Frame} {meth : Method} {c : Code} {A : Nat → Prop} {Q : State → Prop} {G : GP} (K : Cx p s m meth c G cX1_copyFrom RX1 3 none args A) (F : Nat) (bb : Nat → Nat) (oo : Nat → Nat) (σoo : ST) {z : Int32 × ST} (kk : ∀ (H : Heap) (locs : List Loc) (ls : Array Slot), va_P G.1 vwCl (List.flatten [wB G bb z.2, wB G oo σoo]) H → va_D A (List.flatten [wB G bb z.2, wB G oo σoo]) → va_S A s.heap H locs → lv_has ls 3 [(0, .ref (bb 0)), (1, .ref (oo 0)), (2, .int z.1)] → W p l e (RM 1) s m args below meth c H locs 0 0 Q (F0 m 60 ls [])) :
    ∀ (n : Nat) (v2 : Int32) (σbb : ST) (H : Heap) (locs : List Loc) (ls : Array Slot), va_P G.1 vwCl (List.flatten [wB G bb σbb, wB G oo σoo]) H → va_D A (List.flatten [wB G bb σbb, wB G oo σoo]) → va_S A s.heap H locs → lv_has ls 3 [(0, .ref (bb 0)), (1, .ref (oo 0)), (2, .int v2)] → gX1_copyFrom_10 F σoo n v2 σbb = some z → W p l e (RM 1) s m args below meth c H locs 0 0 Q (F0 m 10 ls []) := by
  obtain ⟨hx, hb, hr, hml, hts, hown, hlocks, hA, hG⟩ := id K
  intro n
  induction n with
  | zero =>
    intro v2 σbb H locs ls hP hD hS hl h
    have h : none = some z := h
    cases h
  | succ n ih =>
    intro v2 σbb H locs ls hP hD hS hl h
    have h : gbX1_copyFrom_10 F σoo (gX1_copyFrom_10 F σoo n) v2 σbb = some z := h
    unfold gbX1_copyFrom_10 at h
    refine lv_iload_n hx hb dX1_copyFrom_10 rfl (lv_at hl 2 rfl) ?_
    refine lv_aload_n hx hb dX1_copyFrom_11 rfl (lv_at hl 0 rfl) ?_
    refine va_get (D := G.1) (cl := vwCl) (tys := tysG G) (ci := 1) (v := .int (σbb.1 3)) (C := RX1) (T := TX1) (N := 4) hx hb hts iX1 hown hG.1 hP 0 rfl rfl 3 (Nat.le_of_ble_eq_true rfl) (hts _ tw_1_74) (fun _ h9 => h9) rfl dX1_copyFrom_12 ?_
    refine lv_icmp_ge (tgt := 60) hx hb dX1_copyFrom_15 (by decide) (fun c3 => ?_) (fun c3 => ?_)
    · have h := if_t c3 h
      cases h
      exact kk _ _ _ hP hD hS (lv_sub hl [0, 1, 2] rfl)
    · have h := if_f c3 h
      refine lv_aload_n hx hb dX1_copyFrom_18 rfl (lv_at hl 0 rfl) ?_
      refine va_get (D := G.1) (cl := vwCl) (tys := tysG G) (ci := 1) (v := .ref (bb 1)) (C := RX1) (T := TX1) (N := 4) hx hb hts iX1 hown hG.1 hP 0 rfl rfl 0 (Nat.le_of_ble_eq_true rfl) (hts _ tw_1_63) (fun _ h9 => h9) rfl dX1_copyFrom_19 ?_
      refine lv_iload_n hx hb dX1_copyFrom_22 rfl (lv_at hl 2 rfl) ?_
      refine lv_aload_n hx hb dX1_copyFrom_23 rfl (lv_at hl 1 rfl) ?_
      refine va_get (D := G.1) (cl := vwCl) (tys := tysG G) (ci := 1) (v := .ref (oo 1)) (C := RX1) (T := TX1) (N := 4) hx hb hts iX1 hown hG.1 hP 4 rfl rfl 0 (Nat.le_of_ble_eq_true rfl) (hts _ tw_1_63) (fun _ h9 => h9) rfl dX1_copyFrom_24 ?_
      refine lv_iload_n hx hb dX1_copyFrom_27 rfl (lv_at hl 2 rfl) ?_
      obtain ⟨ck4, h⟩ := ck h
      refine va_iald hx hb hG.1 hP 5 0 rfl rfl ck4 dX1_copyFrom_28 ?_
      obtain ⟨s5, e6, h⟩ := nm_ex h
      refine va_iast hx hb hG.1 hP hD hS 1 0 rfl rfl ck4 dX1_copyFrom_29 (fun H locs hP hD hS => ?_)
      have hP : va_P G.1 vwCl (List.flatten [wB G bb s5, wB G oo σoo]) H := by rw [e6]; exact hP
      have hD : va_D A (List.flatten [wB G bb s5, wB G oo σoo]) := by rw [e6]; exact hD
      refine lv_aload_n hx hb dX1_copyFrom_30 rfl (lv_at hl 0 rfl) ?_
      refine va_get (D := G.1) (cl := vwCl) (tys := tysG G) (ci := 1) (v := .ref (bb 2)) (C := RX1) (T := TX1) (N := 4) hx hb hts iX1 hown hG.1 hP 0 rfl rfl 1 (Nat.le_of_ble_eq_true rfl) (hts _ tw_1_66) (fun _ h9 => h9) rfl dX1_copyFrom_31 ?_
      refine lv_iload_n hx hb dX1_copyFrom_34 rfl (lv_at hl 2 rfl) ?_
      refine lv_aload_n hx hb dX1_copyFrom_35 rfl (lv_at hl 1 rfl) ?_
      refine va_get (D := G.1) (cl := vwCl) (tys := tysG G) (ci := 1) (v := .ref (oo 2)) (C := RX1) (T := TX1) (N := 4) hx hb hts iX1 hown hG.1 hP 4 rfl rfl 1 (Nat.le_of_ble_eq_true rfl) (hts _ tw_1_66) (fun _ h9 => h9) rfl dX1_copyFrom_36 ?_
      refine lv_iload_n hx hb dX1_copyFrom_39 rfl (lv_at hl 2 rfl) ?_
      refine va_iald hx hb hG.1 hP 6 0 rfl rfl ck4 dX1_copyFrom_40 ?_
      obtain ⟨s7, e8, h⟩ := nm_ex h
      refine va_iast hx hb hG.1 hP hD hS 2 0 rfl rfl ck4 dX1_copyFrom_41 (fun H locs hP hD hS => ?_)
      have hP : va_P G.1 vwCl (List.flatten [wB G bb s7, wB G oo σoo]) H := by rw [e8]; exact hP
      have hD : va_D A (List.flatten [wB G bb s7, wB G oo σoo]) := by rw [e8]; exact hD
      refine lv_aload_n hx hb dX1_copyFrom_42 rfl (lv_at hl 0 rfl) ?_
      refine va_get (D := G.1) (cl := vwCl) (tys := tysG G) (ci := 1) (v := .ref (bb 3)) (C := RX1) (T := TX1) (N := 4) hx hb hts iX1 hown hG.1 hP 0 rfl rfl 2 (Nat.le_of_ble_eq_true rfl) (hts _ tw_1_70) (fun _ h9 => h9) rfl dX1_copyFrom_43 ?_
      refine lv_iload_n hx hb dX1_copyFrom_46 rfl (lv_at hl 2 rfl) ?_
      refine lv_aload_n hx hb dX1_copyFrom_47 rfl (lv_at hl 1 rfl) ?_
      refine va_get (D := G.1) (cl := vwCl) (tys := tysG G) (ci := 1) (v := .ref (oo 3)) (C := RX1) (T := TX1) (N := 4) hx hb hts iX1 hown hG.1 hP 4 rfl rfl 2 (Nat.le_of_ble_eq_true rfl) (hts _ tw_1_70) (fun _ h9 => h9) rfl dX1_copyFrom_48 ?_
      refine lv_iload_n hx hb dX1_copyFrom_51 rfl (lv_at hl 2 rfl) ?_
      refine va_iald hx hb hG.1 hP 7 0 rfl rfl ck4 dX1_copyFrom_52 ?_
      obtain ⟨s9, e10, h⟩ := nm_ex h
      refine va_iast hx hb hG.1 hP hD hS 3 0 rfl rfl ck4 dX1_copyFrom_53 (fun H locs hP hD hS => ?_)
      have hP : va_P G.1 vwCl (List.flatten [wB G bb s9, wB G oo σoo]) H := by rw [e10]; exact hP
      have hD : va_D A (List.flatten [wB G bb s9, wB G oo σoo]) := by rw [e10]; exact hD
      refine lv_iinc (v := v2 + 1) (lv' := [(2, .int (v2 + 1)), (0, .ref (bb 0)), (1, .ref (oo 0))]) hx hb dX1_copyFrom_54 hl (k := 2) rfl (by rw [li_1]) (Nat.le_of_ble_eq_true rfl) rfl (fun ls hl => ?_)
      refine lv_goto (tgt := 10) hx hb dX1_copyFrom_57 (by decide) ?_
      exact ih (v2 + 1) s9 _ _ _ hP hD hS (lv_sub hl [1, 2, 0] rfl) h
def fX1_copyFrom (F : Nat) (σbb : ST) (σoo : ST)  : Option (ST) :=
  nm (sI σbb 3 (σoo.1 3)) fun (s1 : ST) =>
  (gX1_copyFrom_10 F σoo F (0 : Int32) s1).bind fun z11 =>
    some z11.2
theorem cdX1_copyFrom : CallD yX1_copyFrom 1 := by decide +kernel
set_option maxHeartbeats 4000000 in
set_option maxRecDepth 100000 in
theorem mX1_copyFrom (l : Launch) (G : GP) (F : Nat) (bb : Nat → Nat) (oo : Nat → Nat) (σbb : ST) (σoo : ST)  {r : ST} (h : fX1_copyFrom F σbb σoo  = some r) : CC l G yX1_copyFrom cX1_copyFrom 3 none 1 [.ref (bb 0), .ref (oo 0)] (List.flatten [wB G bb σbb, wB G oo σoo]) (List.flatten [wB G bb r, wB G oo σoo]) none := by
  refine CC.of (by decide) (Nat.le_of_ble_eq_true rfl) ?_
  intro p e s m below meth c A K hP hD hS ls hl
  obtain ⟨hx, hb, hr, hml, hts, hown, hlocks, hA, hG⟩ := id K
  have hl : lv_has ls 3 [(0, .ref (bb 0)), (1, .ref (oo 0))] := hl
  unfold fX1_copyFrom at h
  refine lv_aload_n hx hb dX1_copyFrom_0 rfl (lv_at hl 0 rfl) ?_
  refine lv_aload_n hx hb dX1_copyFrom_1 rfl (lv_at hl 1 rfl) ?_
  refine va_get (D := G.1) (cl := vwCl) (tys := tysG G) (ci := 1) (v := .int (σoo.1 3)) (C := RX1) (T := TX1) (N := 4) hx hb hts iX1 hown hG.1 hP 4 rfl rfl 3 (Nat.le_of_ble_eq_true rfl) (hts _ tw_1_74) (fun _ h9 => h9) rfl dX1_copyFrom_2 ?_
  obtain ⟨s1, e2, h⟩ := nm_ex h
  refine va_put (D := G.1) (cl := vwCl) (tys := tysG G) (ci := 1) (v := .int (σoo.1 3)) (ty := .int) (C := RX1) (T := TX1) (N := 4) hx hb hts iX1 tyX1 tyX1_ok nmX1 hown hG.1 hP hD hS 0 rfl rfl 3 (Nat.le_of_ble_eq_true rfl) (hts _ tw_1_74) (fun _ h9 => h9) rfl (by decide +kernel) rfl rfl (Nat.le_of_ble_eq_true rfl) dX1_copyFrom_5 (fun H locs hP hD hS => ?_)
  have hP : va_P G.1 vwCl (List.flatten [wB G bb s1, wB G oo σoo]) H := by rw [e2]; exact hP
  have hD : va_D A (List.flatten [wB G bb s1, wB G oo σoo]) := by rw [e2]; exact hD
  refine lv_iconst (v := 0) hx hb dX1_copyFrom_8 li_0 ?_
  refine lv_istore_n (lv' := [(2, .int (0 : Int32)), (0, .ref (bb 0)), (1, .ref (oo 0))]) hx hb dX1_copyFrom_9 rfl hl (Nat.le_of_ble_eq_true rfl) rfl (fun ls hl => ?_)
  obtain ⟨z11, hz12, h⟩ := bd_ex h
  refine kX1_copyFrom_10 K F bb oo σoo (fun H locs ls hP hD hS hl => ?_) F (0 : Int32) s1 _ _ _ hP hD hS (lv_sub hl [1, 2, 0] rfl) hz12
  cases h
  exact rt_v K hP hD hS dX1_copyFrom_60
