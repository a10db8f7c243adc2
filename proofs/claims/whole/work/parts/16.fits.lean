def gbX3_shadowsOf_5 (F : Nat) (σss : ST) (v0 : Int32) (v1 : Int32) (rc : Int64 → Int32 → Option (Int64 × Int32)) (v3 : Int64) (v5 : Int32) : Option (Int64 × Int32) :=
  if (σss.1 2) ≤ v5 then
    some (v3, v5)
  else
    if v0 < 0 ∨ 6 ≤ v0.toNatClampNeg then none else
    if v5 < 0 ∨ 6 ≤ v5.toNatClampNeg then none else
    (fX10_reach F (hgtI v0.toNatClampNeg) v1 (σss.2.1 0 v5.toNatClampNeg)).bind fun r4 =>
    rc ((v3 <<< ((10 : Int32).toInt64 &&& 63)) ||| r4.toInt64) (v5 + 1)
def gX3_shadowsOf_5 (F : Nat) (σss : ST) (v0 : Int32) (v1 : Int32) : Nat → Int64 → Int32 → Option (Int64 × Int32)
  | 0, _, _ => none
  | n + 1, v3, v5 => gbX3_shadowsOf_5 F σss v0 v1 (gX3_shadowsOf_5 F σss v0 v1 n) v3 v5
set_option maxHeartbeats 4000000 in
set_option maxRecDepth 100000 in
theorem kX3_shadowsOf_5 {p : Program} {l : Launch} {e : Env} {s : State} {m : MethodId} {args : Array Value} {below : List Frame} {meth : Method} {c : Code} {A : Nat → Prop} {Q : State → Prop} {G : GP} (K : Cx p s m meth c G cX3_shadowsOf RX3 6 (some .long) args A) (F : Nat) (ss : Nat → Nat) (σss : ST) (v0 : Int32) (v1 : Int32) {z : Int64 × Int32} (kk : ∀ (H : Heap) (locs : List Loc) (ls : Array Slot), va_P G.1 vwCl (List.flatten [wS G ss σss]) H → va_D A (List.flatten [wS G ss σss]) → va_S A s.heap H locs → lv_has ls 6 [(0, .int v0), (1, .int v1), (2, .ref (ss 0)), (3, .long z.1), (5, .int z.2)] → W p l e (RM 4) s m args below meth c H locs 0 0 Q (F0 m 43 ls [])) :
    ∀ (n : Nat) (v3 : Int64) (v5 : Int32) (H : Heap) (locs : List Loc) (ls : Array Slot), va_P G.1 vwCl (List.flatten [wS G ss σss]) H → va_D A (List.flatten [wS G ss σss]) → va_S A s.heap H locs → lv_has ls 6 [(0, .int v0), (1, .int v1), (2, .ref (ss 0)), (3, .long v3), (5, .int v5)] → gX3_shadowsOf_5 F σss v0 v1 n v3 v5 = some z → W p l e (RM 4) s m args below meth c H locs 0 0 Q (F0 m 5 ls []) := by
  obtain ⟨hx, hb, hr, hml, hts, hown, hlocks, hA, hG⟩ := id K
  intro n
  induction n with
  | zero =>
    intro v3 v5 H locs ls hP hD hS hl h
    have h : none = some z := h
    cases h
  | succ n ih =>
    intro v3 v5 H locs ls hP hD hS hl h
    have h : gbX3_shadowsOf_5 F σss v0 v1 (gX3_shadowsOf_5 F σss v0 v1 n) v3 v5 = some z := h
    unfold gbX3_shadowsOf_5 at h
    refine lv_iload hx hb dX3_shadowsOf_5 (lv_at hl 4 rfl) ?_
    refine lv_aload_n hx hb dX3_shadowsOf_7 rfl (lv_at hl 2 rfl) ?_
    refine va_get (D := G.1) (cl := vwCl) (tys := tysG G) (ci := 7) (v := .int (σss.1 2)) (C := RX7) (T := TX7) (N := 3) hx hb hts iX7 hown hG.1 hP 0 rfl rfl 2 (Nat.le_of_ble_eq_true rfl) (hts _ tw_1_217) (fun _ h9 => h9) rfl dX3_shadowsOf_8 ?_
    refine lv_icmp_ge (tgt := 43) hx hb dX3_shadowsOf_11 (by decide) (fun c1 => ?_) (fun c1 => ?_)
    · have h := if_t c1 h
      cases h
      exact kk _ _ _ hP hD hS (lv_sub hl [0, 1, 2, 3, 4] rfl)
    · have h := if_f c1 h
      refine lv_lload_n hx hb dX3_shadowsOf_14 rfl (lv_at hl 3 rfl) ?_
      refine lv_bipush (v := 10) hx hb dX3_shadowsOf_15 lb_10 ?_
      refine lv_lshl (v := v3 <<< ((10 : Int32).toInt64 &&& 63)) hx hb dX3_shadowsOf_17 rfl ?_
      refine va_getsN hx hb hG.2.2.1.1 hS hown (va_Nw.use rfl (hG.2.1 _ tw_4_7)) (fun _ h9 => h9) dX3_shadowsOf_18 ?_
      refine lv_iload_n hx hb dX3_shadowsOf_21 rfl (lv_at hl 0 rfl) ?_
      obtain ⟨ck2, h⟩ := ck h
      refine va_ti (v := .int (hgtI v0.toNatClampNeg)) hx hb hG.2.2.1.2 hS ck2 rfl dX3_shadowsOf_22 ?_
      refine lv_iload_n hx hb dX3_shadowsOf_23 rfl (lv_at hl 1 rfl) ?_
      refine lv_aload_n hx hb dX3_shadowsOf_24 rfl (lv_at hl 2 rfl) ?_
      refine va_get (D := G.1) (cl := vwCl) (tys := tysG G) (ci := 7) (v := .ref (ss 1)) (C := RX7) (T := TX7) (N := 3) hx hb hts iX7 hown hG.1 hP 0 rfl rfl 0 (Nat.le_of_ble_eq_true rfl) (hts _ tw_1_213) (fun _ h9 => h9) rfl dX3_shadowsOf_25 ?_
      refine lv_iload hx hb dX3_shadowsOf_28 (lv_at hl 4 rfl) ?_
      obtain ⟨ck3, h⟩ := ck h
      refine va_iald hx hb hG.1 hP 1 0 rfl rfl ck3 dX3_shadowsOf_30 ?_
      obtain ⟨r4, hc5, h⟩ := bd_ex h
      refine sl_SN K (mX10_reach l G F (hgtI v0.toNatClampNeg) v1 (σss.2.1 0 v5.toNatClampNeg) hc5) tw_3_130 tw_1_1 tw_3_129 tw_4_8 cdX10_reach ⟨Nat.le_of_ble_eq_true rfl, Nat.le_of_ble_eq_true rfl⟩ hP hD hS [] rfl rfl rfl rfl hl.1 (Nat.le_of_ble_eq_true rfl) ⟨Nat.zero_le _, Nat.zero_le _⟩ dX3_shadowsOf_31 (fun H locs hP hD hS => ?_)
      have hP : va_P G.1 vwCl (List.flatten [wS G ss σss]) H := hP
      have hD : va_D A (List.flatten [wS G ss σss]) := hD
      refine lv_i2l (v := r4.toInt64) hx hb dX3_shadowsOf_34 rfl ?_
      refine lv_lor hx hb dX3_shadowsOf_35 ?_
      refine lv_lstore_n (lv' := [(3, .long ((v3 <<< ((10 : Int32).toInt64 &&& 63)) ||| r4.toInt64)), (0, .int v0), (1, .int v1), (2, .ref (ss 0)), (5, .int v5)]) hx hb dX3_shadowsOf_36 rfl hl (Nat.le_of_ble_eq_true rfl) rfl (fun ls hl => ?_)
      refine lv_iinc (v := v5 + 1) (lv' := [(5, .int (v5 + 1)), (3, .long ((v3 <<< ((10 : Int32).toInt64 &&& 63)) ||| r4.toInt64)), (0, .int v0), (1, .int v1), (2, .ref (ss 0))]) hx hb dX3_shadowsOf_37 hl (k := 4) rfl (by rw [li_1]) (Nat.le_of_ble_eq_true rfl) rfl (fun ls hl => ?_)
      refine lv_goto (tgt := 5) hx hb dX3_shadowsOf_40 (by decide) ?_
      exact ih ((v3 <<< ((10 : Int32).toInt64 &&& 63)) ||| r4.toInt64) (v5 + 1) _ _ _ hP hD hS (lv_sub hl [2, 3, 4, 1, 0] rfl) h
def fX3_shadowsOf (F : Nat) (σss : ST) (x1 : Int32) (x2 : Int32) : Option (Int64) :=
  (gX3_shadowsOf_5 F σss x1 x2 F (0 : Int64) (0 : Int32)).bind fun z6 =>
    some z6.1
theorem cdX3_shadowsOf : CallD yX3_shadowsOf 3 := by decide +kernel
set_option maxHeartbeats 4000000 in
set_option maxRecDepth 100000 in
theorem mX3_shadowsOf (l : Launch) (G : GP) (F : Nat) (ss : Nat → Nat) (σss : ST) (x1 : Int32) (x2 : Int32) {r : Int64} (h : fX3_shadowsOf F σss x1 x2 = some r) : CC l G yX3_shadowsOf cX3_shadowsOf 6 (some .long) 4 [.int x1, .int x2, .ref (ss 0)] (List.flatten [wS G ss σss]) (List.flatten [wS G ss σss]) (some (.long r)) := by
  refine CC.of (by decide) (Nat.le_of_ble_eq_true rfl) ?_
  intro p e s m below meth c A K hP hD hS ls hl
  obtain ⟨hx, hb, hr, hml, hts, hown, hlocks, hA, hG⟩ := id K
  have hl : lv_has ls 6 [(0, .int x1), (1, .int x2), (2, .ref (ss 0))] := hl
  unfold fX3_shadowsOf at h
  refine lv_lconst (v := 0) hx hb dX3_shadowsOf_0 ll_0 ?_
  refine lv_lstore_n (lv' := [(3, .long (0 : Int64)), (0, .int x1), (1, .int x2), (2, .ref (ss 0))]) hx hb dX3_shadowsOf_1 rfl hl (Nat.le_of_ble_eq_true rfl) rfl (fun ls hl => ?_)
  refine lv_iconst (v := 0) hx hb dX3_shadowsOf_2 li_0 ?_
  refine lv_istore (lv' := [(5, .int (0 : Int32)), (3, .long (0 : Int64)), (0, .int x1), (1, .int x2), (2, .ref (ss 0))]) hx hb dX3_shadowsOf_3 hl (Nat.le_of_ble_eq_true rfl) rfl (fun ls hl => ?_)
  obtain ⟨z6, hz7, h⟩ := bd_ex h
  refine kX3_shadowsOf_5 K F ss σss x1 x2 (fun H locs ls hP hD hS hl => ?_) F (0 : Int64) (0 : Int32) _ _ _ hP hD hS (lv_sub hl [2, 3, 4, 1, 0] rfl) hz7
  refine lv_lload_n hx hb dX3_shadowsOf_43 rfl (lv_at hl 3 rfl) ?_
  cases h
  exact rt_l K hP hD hS dX3_shadowsOf_44
def fX3_mayStand (F : Nat) (σpp : ST) (x1 : Int64) : Option (Int32) :=
  if (lg_cmp (x1 &&& ((σpp.2.2.1 7) ^^^ (-1 : Int64))) (0 : Int64)) = 0 then
    some (1 : Int32)
  else
    some (0 : Int32)
theorem cdX3_mayStand : CallD yX3_mayStand 1 := by decide +kernel
set_option maxHeartbeats 4000000 in
set_option maxRecDepth 100000 in
theorem mX3_mayStand (l : Launch) (G : GP) (F : Nat) (pp : Nat → Nat) (σpp : ST) (x1 : Int64) {r : Int32} (h : fX3_mayStand F σpp x1 = some r) : CC l G yX3_mayStand cX3_mayStand 3 (some .boolean) 1 [.ref (pp 0), .long x1] (List.flatten [wP G pp σpp]) (List.flatten [wP G pp σpp]) (some (.int r)) := by
  refine CC.of (by decide) (Nat.le_of_ble_eq_true rfl) ?_
  intro p e s m below meth c A K hP hD hS ls hl
  obtain ⟨hx, hb, hr, hml, hts, hown, hlocks, hA, hG⟩ := id K
  have hl : lv_has ls 3 [(0, .ref (pp 0)), (1, .long x1)] := hl
  unfold fX3_mayStand at h
  refine lv_lload_n hx hb dX3_mayStand_0 rfl (lv_at hl 1 rfl) ?_
  refine lv_aload_n hx hb dX3_mayStand_1 rfl (lv_at hl 0 rfl) ?_
  refine va_get (D := G.1) (cl := vwCl) (tys := tysG G) (ci := 3) (v := .long (σpp.2.2.1 7)) (C := RX3) (T := TX3) (N := 8) hx hb hts iX3 hown hG.1 hP 0 rfl rfl 7 (Nat.le_of_ble_eq_true rfl) (hts _ tw_1_239) (fun _ h9 => h9) rfl dX3_mayStand_2 ?_
  refine lv_ldc2 (v := -1) hx hb hown (hts _ tw_4_13) dX3_mayStand_5 ?_
  refine lv_lxor hx hb dX3_mayStand_8 ?_
  refine lv_land hx hb dX3_mayStand_9 ?_
  refine lv_lconst (v := 0) hx hb dX3_mayStand_10 ll_0 ?_
  refine W.lcmp hx hb dX3_mayStand_11 ?_
  refine lv_if_ne (tgt := 19) hx hb dX3_mayStand_12 (by decide) (fun c1 => ?_) (fun c1 => ?_)
  · have h := if_f c1 h
    refine lv_iconst (v := 0) hx hb dX3_mayStand_19 li_0 ?_
    cases h
    exact rt_z K (Or.inl rfl) hP hD hS dX3_mayStand_20
  · have h := if_t c1 h
    refine lv_iconst (v := 1) hx hb dX3_mayStand_15 li_1 ?_
    refine lv_goto (tgt := 20) hx hb dX3_mayStand_16 (by decide) ?_
    cases h
    exact rt_z K (Or.inr rfl) hP hD hS dX3_mayStand_20
def fX3_tallest (F : Nat) (σpp : ST) (x1 : Int32) : Option (Int64) :=
  if x1 < 0 ∨ 10 ≤ x1.toNatClampNeg then none else
  if (σpp.2.1 2 x1.toNatClampNeg) = (3 : Int32) then
    some (σpp.2.2.2 1 x1.toNatClampNeg)
  else
    if (σpp.2.1 2 x1.toNatClampNeg) = (2 : Int32) then
      some (σpp.2.2.2 0 x1.toNatClampNeg)
    else
      some (0 : Int64)
theorem cdX3_tallest : CallD yX3_tallest 1 := by decide +kernel
set_option maxHeartbeats 4000000 in
set_option maxRecDepth 100000 in
theorem mX3_tallest (l : Launch) (G : GP) (F : Nat) (pp : Nat → Nat) (σpp : ST) (x1 : Int32) {r : Int64} (h : fX3_tallest F σpp x1 = some r) : CC l G yX3_tallest cX3_tallest 2 (some .long) 1 [.ref (pp 0), .int x1] (List.flatten [wP G pp σpp]) (List.flatten [wP G pp σpp]) (some (.long r)) := by
  refine CC.of (by decide) (Nat.le_of_ble_eq_true rfl) ?_
  intro p e s m below meth c A K hP hD hS ls hl
  obtain ⟨hx, hb, hr, hml, hts, hown, hlocks, hA, hG⟩ := id K
  have hl : lv_has ls 2 [(0, .ref (pp 0)), (1, .int x1)] := hl
  unfold fX3_tallest at h
  refine lv_aload_n hx hb dX3_tallest_0 rfl (lv_at hl 0 rfl) ?_
  refine va_get (D := G.1) (cl := vwCl) (tys := tysG G) (ci := 3) (v := .ref (pp 3)) (C := RX3) (T := TX3) (N := 8) hx hb hts iX3 hown hG.1 hP 0 rfl rfl 2 (Nat.le_of_ble_eq_true rfl) (hts _ tw_1_234) (fun _ h9 => h9) rfl dX3_tallest_1 ?_
  refine lv_iload_n hx hb dX3_tallest_4 rfl (lv_at hl 1 rfl) ?_
  obtain ⟨ck1, h⟩ := ck h
  refine va_iald hx hb hG.1 hP 3 0 rfl rfl ck1 dX3_tallest_5 ?_
  refine lv_iconst (v := 3) hx hb dX3_tallest_6 li_3 ?_
  refine lv_icmp_ne (tgt := 19) hx hb dX3_tallest_7 (by decide) (fun c2 => ?_) (fun c2 => ?_)
  · have h := if_f c2 h
    refine lv_aload_n hx hb dX3_tallest_19 rfl (lv_at hl 0 rfl) ?_
    refine va_get (D := G.1) (cl := vwCl) (tys := tysG G) (ci := 3) (v := .ref (pp 3)) (C := RX3) (T := TX3) (N := 8) hx hb hts iX3 hown hG.1 hP 0 rfl rfl 2 (Nat.le_of_ble_eq_true rfl) (hts _ tw_1_234) (fun _ h9 => h9) rfl dX3_tallest_20 ?_
    refine lv_iload_n hx hb dX3_tallest_23 rfl (lv_at hl 1 rfl) ?_
    refine va_iald hx hb hG.1 hP 3 0 rfl rfl ck1 dX3_tallest_24 ?_
    refine lv_iconst (v := 2) hx hb dX3_tallest_25 li_2 ?_
    refine lv_icmp_ne (tgt := 38) hx hb dX3_tallest_26 (by decide) (fun c3 => ?_) (fun c3 => ?_)
    · have h := if_f c3 h
      refine lv_lconst (v := 0) hx hb dX3_tallest_38 ll_0 ?_
      cases h
      exact rt_l K hP hD hS dX3_tallest_39
    · have h := if_t c3 h
      refine lv_aload_n hx hb dX3_tallest_29 rfl (lv_at hl 0 rfl) ?_
      refine va_get (D := G.1) (cl := vwCl) (tys := tysG G) (ci := 3) (v := .ref (pp 1)) (C := RX3) (T := TX3) (N := 8) hx hb hts iX3 hown hG.1 hP 0 rfl rfl 0 (Nat.le_of_ble_eq_true rfl) (hts _ tw_1_232) (fun _ h9 => h9) rfl dX3_tallest_30 ?_
      refine lv_iload_n hx hb dX3_tallest_33 rfl (lv_at hl 1 rfl) ?_
      refine va_lald hx hb hG.1 hP 1 1 rfl rfl ck1 dX3_tallest_34 ?_
      refine lv_goto (tgt := 39) hx hb dX3_tallest_35 (by decide) ?_
      cases h
      exact rt_l K hP hD hS dX3_tallest_39
  · have h := if_t c2 h
    refine lv_aload_n hx hb dX3_tallest_10 rfl (lv_at hl 0 rfl) ?_
    refine va_get (D := G.1) (cl := vwCl) (tys := tysG G) (ci := 3) (v := .ref (pp 2)) (C := RX3) (T := TX3) (N := 8) hx hb hts iX3 hown hG.1 hP 0 rfl rfl 1 (Nat.le_of_ble_eq_true rfl) (hts _ tw_1_233) (fun _ h9 => h9) rfl dX3_tallest_11 ?_
    refine lv_iload_n hx hb dX3_tallest_14 rfl (lv_at hl 1 rfl) ?_
    refine va_lald hx hb hG.1 hP 2 1 rfl rfl ck1 dX3_tallest_15 ?_
    refine lv_goto (tgt := 39) hx hb dX3_tallest_16 (by decide) ?_
    cases h
    exact rt_l K hP hD hS dX3_tallest_39
def fX3_exist (F : Nat) (σpp : ST)  : Option (Int32) :=
  if (lg_cmp (σpp.2.2.2 3 (0 : Int32).toNatClampNeg) (σpp.2.2.1 7)) = 0 then
    some (1 : Int32)
  else
    some (0 : Int32)
theorem cdX3_exist : CallD yX3_exist 0 := by decide +kernel
set_option maxHeartbeats 4000000 in
set_option maxRecDepth 100000 in
theorem mX3_exist (l : Launch) (G : GP) (F : Nat) (pp : Nat → Nat) (σpp : ST)  {r : Int32} (h : fX3_exist F σpp  = some r) : CC l G yX3_exist cX3_exist 1 (some .boolean) 1 [.ref (pp 0)] (List.flatten [wP G pp σpp]) (List.flatten [wP G pp σpp]) (some (.int r)) := by
  refine CC.of (by decide) (Nat.le_of_ble_eq_true rfl) ?_
  intro p e s m below meth c A K hP hD hS ls hl
  obtain ⟨hx, hb, hr, hml, hts, hown, hlocks, hA, hG⟩ := id K
  have hl : lv_has ls 1 [(0, .ref (pp 0))] := hl
  unfold fX3_exist at h
  refine lv_aload_n hx hb dX3_exist_0 rfl (lv_at hl 0 rfl) ?_
  refine va_get (D := G.1) (cl := vwCl) (tys := tysG G) (ci := 3) (v := .ref (pp 4)) (C := RX3) (T := TX3) (N := 8) hx hb hts iX3 hown hG.1 hP 0 rfl rfl 3 (Nat.le_of_ble_eq_true rfl) (hts _ tw_1_235) (fun _ h9 => h9) rfl dX3_exist_1 ?_
  refine lv_iconst (v := 0) hx hb dX3_exist_4 li_0 ?_
  refine va_lald hx hb hG.1 hP 4 1 rfl rfl (vpi (by decide)) dX3_exist_5 ?_
  refine lv_aload_n hx hb dX3_exist_6 rfl (lv_at hl 0 rfl) ?_
  refine va_get (D := G.1) (cl := vwCl) (tys := tysG G) (ci := 3) (v := .long (σpp.2.2.1 7)) (C := RX3) (T := TX3) (N := 8) hx hb hts iX3 hown hG.1 hP 0 rfl rfl 7 (Nat.le_of_ble_eq_true rfl) (hts _ tw_1_239) (fun _ h9 => h9) rfl dX3_exist_7 ?_
  refine W.lcmp hx hb dX3_exist_10 ?_
  refine lv_if_ne (tgt := 18) hx hb dX3_exist_11 (by decide) (fun c1 => ?_) (fun c1 => ?_)
  · have h := if_f c1 h
    refine lv_iconst (v := 0) hx hb dX3_exist_18 li_0 ?_
    cases h
    exact rt_z K (Or.inl rfl) hP hD hS dX3_exist_19
  · have h := if_t c1 h
    refine lv_iconst (v := 1) hx hb dX3_exist_14 li_1 ?_
    refine lv_goto (tgt := 19) hx hb dX3_exist_15 (by decide) ?_
    cases h
    exact rt_z K (Or.inr rfl) hP hD hS dX3_exist_19
def gbX3_prepare_7 (F : Nat) (σss : ST) (rc : Int32 → ST → Option (Int32 × ST)) (v2 : Int32) (σpp : ST) : Option (Int32 × ST) :=
  if (σss.1 2) ≤ v2 then
    some (v2, σpp)
  else
    if v2 < 0 ∨ 6 ≤ v2.toNatClampNeg then none else
    nm (sJ σpp 7 (((σpp.2.2.1 7) <<< ((10 : Int32).toInt64 &&& 63)) ||| ((σss.2.1 1 v2.toNatClampNeg).toInt64))) fun (s5 : ST) =>
    rc (v2 + 1) s5
def gX3_prepare_7 (F : Nat) (σss : ST) : Nat → Int32 → ST → Option (Int32 × ST)
  | 0, _, _ => none
  | n + 1, v2, σpp => gbX3_prepare_7 F σss (gX3_prepare_7 F σss n) v2 σpp
set_option maxHeartbeats 4000000 in
set_option maxRecDepth 100000 in
theorem kX3_prepare_7 {p : Program} {l : Launch} {e : Env} {s : State} {m : MethodId} {args : Array Value} {below : List Frame} {meth : Method} {c : Code} {A : Nat → Prop} {Q : State → Prop} {G : GP} (K : Cx p s m meth c G cX3_prepare RX3 3 none args A) (F : Nat) (pp : Nat → Nat) (ss : Nat → Nat) (σss : ST) {z : Int32 × ST} (kk : ∀ (H : Heap) (locs : List Loc) (ls : Array Slot), va_P G.1 vwCl (List.flatten [wP G pp z.2, wS G ss σss]) H → va_D A (List.flatten [wP G pp z.2, wS G ss σss]) → va_S A s.heap H locs → lv_has ls 3 [(0, .ref (pp 0)), (1, .ref (ss 0)), (2, .int z.1)] → W p l e (RM 5) s m args below meth c H locs 0 0 Q (F0 m 40 ls [])) :
    ∀ (n : Nat) (v2 : Int32) (σpp : ST) (H : Heap) (locs : List Loc) (ls : Array Slot), va_P G.1 vwCl (List.flatten [wP G pp σpp, wS G ss σss]) H → va_D A (List.flatten [wP G pp σpp, wS G ss σss]) → va_S A s.heap H locs → lv_has ls 3 [(0, .ref (pp 0)), (1, .ref (ss 0)), (2, .int v2)] → gX3_prepare_7 F σss n v2 σpp = some z → W p l e (RM 5) s m args below meth c H locs 0 0 Q (F0 m 7 ls []) := by
  obtain ⟨hx, hb, hr, hml, hts, hown, hlocks, hA, hG⟩ := id K
  intro n
  induction n with
  | zero =>
    intro v2 σpp H locs ls hP hD hS hl h
    have h : none = some z := h
    cases h
  | succ n ih =>
    intro v2 σpp H locs ls hP hD hS hl h
    have h : gbX3_prepare_7 F σss (gX3_prepare_7 F σss n) v2 σpp = some z := h
    unfold gbX3_prepare_7 at h
    refine lv_iload_n hx hb dX3_prepare_7 rfl (lv_at hl 2 rfl) ?_
    refine lv_aload_n hx hb dX3_prepare_8 rfl (lv_at hl 1 rfl) ?_
    refine va_get (D := G.1) (cl := vwCl) (tys := tysG G) (ci := 7) (v := .int (σss.1 2)) (C := RX7) (T := TX7) (N := 3) hx hb hts iX7 hown hG.1 hP 8 rfl rfl 2 (Nat.le_of_ble_eq_true rfl) (hts _ tw_1_217) (fun _ h9 => h9) rfl dX3_prepare_9 ?_
    refine lv_icmp_ge (tgt := 40) hx hb dX3_prepare_12 (by decide) (fun c3 => ?_) (fun c3 => ?_)
    · have h := if_t c3 h
      cases h
      exact kk _ _ _ hP hD hS (lv_sub hl [0, 1, 2] rfl)
    · have h := if_f c3 h
      refine lv_aload_n hx hb dX3_prepare_15 rfl (lv_at hl 0 rfl) ?_
      refine lv_aload_n hx hb dX3_prepare_16 rfl (lv_at hl 0 rfl) ?_
      refine va_get (D := G.1) (cl := vwCl) (tys := tysG G) (ci := 3) (v := .long (σpp.2.2.1 7)) (C := RX3) (T := TX3) (N := 8) hx hb hts iX3 hown hG.1 hP 0 rfl rfl 7 (Nat.le_of_ble_eq_true rfl) (hts _ tw_1_239) (fun _ h9 => h9) rfl dX3_prepare_17 ?_
      refine lv_bipush (v := 10) hx hb dX3_prepare_20 lb_10 ?_
      refine lv_lshl (v := (σpp.2.2.1 7) <<< ((10 : Int32).toInt64 &&& 63)) hx hb dX3_prepare_22 rfl ?_
      refine lv_aload_n hx hb dX3_prepare_23 rfl (lv_at hl 1 rfl) ?_
      refine va_get (D := G.1) (cl := vwCl) (tys := tysG G) (ci := 7) (v := .ref (ss 2)) (C := RX7) (T := TX7) (N := 3) hx hb hts iX7 hown hG.1 hP 8 rfl rfl 1 (Nat.le_of_ble_eq_true rfl) (hts _ tw_1_215) (fun _ h9 => h9) rfl dX3_prepare_24 ?_
      refine lv_iload_n hx hb dX3_prepare_27 rfl (lv_at hl 2 rfl) ?_
      obtain ⟨ck4, h⟩ := ck h
      refine va_iald hx hb hG.1 hP 10 0 rfl rfl ck4 dX3_prepare_28 ?_
      refine lv_i2l (v := (σss.2.1 1 v2.toNatClampNeg).toInt64) hx hb dX3_prepare_29 rfl ?_
      refine lv_lor hx hb dX3_prepare_30 ?_
      obtain ⟨s5, e6, h⟩ := nm_ex h
      refine va_put (D := G.1) (cl := vwCl) (tys := tysG G) (ci := 3) (v := .long (((σpp.2.2.1 7) <<< ((10 : Int32).toInt64 &&& 63)) ||| ((σss.2.1 1 v2.toNatClampNeg).toInt64))) (ty := .long) (C := RX3) (T := TX3) (N := 8) hx hb hts iX3 tyX3 tyX3_ok nmX3 hown hG.1 hP hD hS 0 rfl rfl 7 (Nat.le_of_ble_eq_true rfl) (hts _ tw_1_239) (fun _ h9 => h9) rfl (by decide +kernel) rfl rfl (Nat.le_of_ble_eq_true rfl) dX3_prepare_31 (fun H locs hP hD hS => ?_)
      have hP : va_P G.1 vwCl (List.flatten [wP G pp s5, wS G ss σss]) H := by rw [e6]; exact hP
      have hD : va_D A (List.flatten [wP G pp s5, wS G ss σss]) := by rw [e6]; exact hD
      refine lv_iinc (v := v2 + 1) (lv' := [(2, .int (v2 + 1)), (0, .ref (pp 0)), (1, .ref (ss 0))]) hx hb dX3_prepare_34 hl (k := 2) rfl (by rw [li_1]) (Nat.le_of_ble_eq_true rfl) rfl (fun ls hl => ?_)
      refine lv_goto (tgt := 7) hx hb dX3_prepare_37 (by decide) ?_
      exact ih (v2 + 1) s5 _ _ _ hP hD hS (lv_sub hl [1, 2, 0] rfl) h
def gbX3_prepare_59 (F : Nat) (σss : ST) (rc : Int32 → ST → Option (Int32 × ST)) (v2 : Int32) (σpp : ST) : Option (Int32 × ST) :=
  if v2 < 0 then
    some (v2, σpp)
  else
    (fX3_shadowsOf F σss (1 : Int32) v2).bind fun r14 =>
    if v2 < 0 ∨ 10 ≤ v2.toNatClampNeg then none else
    nm (sL σpp 0 v2.toNatClampNeg r14) fun (s17 : ST) =>
    (fX3_shadowsOf F σss (0 : Int32) v2).bind fun r19 =>
    nm (sL s17 1 v2.toNatClampNeg r19) fun (s21 : ST) =>
    (fX3_mayStand F s21 (s21.2.2.2 1 v2.toNatClampNeg)).bind fun r23 =>
    if r23 = 0 then
      (fX3_mayStand F s21 (s21.2.2.2 0 v2.toNatClampNeg)).bind fun r26 =>
      if r26 = 0 then
        nm (sA s21 2 v2.toNatClampNeg (1 : Int32)) fun (s29 : ST) =>
        if (v2 + (1 : Int32)) < 0 ∨ 11 ≤ (v2 + (1 : Int32)).toNatClampNeg then none else
        (fX3_tallest F s29 v2).bind fun r32 =>
        if v2 < 0 ∨ 11 ≤ v2.toNatClampNeg then none else
        nm (sL s29 3 v2.toNatClampNeg ((s29.2.2.2 3 (v2 + (1 : Int32)).toNatClampNeg) ||| r32)) fun (s35 : ST) =>
        nm (sA s35 4 v2.toNatClampNeg ((s35.2.1 4 (v2 + (1 : Int32)).toNatClampNeg) * (s35.2.1 2 v2.toNatClampNeg))) fun (s37 : ST) =>
        rc (v2 + (-1)) s37
      else
        nm (sA s21 2 v2.toNatClampNeg (2 : Int32)) fun (s39 : ST) =>
        if (v2 + (1 : Int32)) < 0 ∨ 11 ≤ (v2 + (1 : Int32)).toNatClampNeg then none else
        (fX3_tallest F s39 v2).bind fun r42 =>
        if v2 < 0 ∨ 11 ≤ v2.toNatClampNeg then none else
        nm (sL s39 3 v2.toNatClampNeg ((s39.2.2.2 3 (v2 + (1 : Int32)).toNatClampNeg) ||| r42)) fun (s45 : ST) =>
        nm (sA s45 4 v2.toNatClampNeg ((s45.2.1 4 (v2 + (1 : Int32)).toNatClampNeg) * (s45.2.1 2 v2.toNatClampNeg))) fun (s47 : ST) =>
        rc (v2 + (-1)) s47
    else
      nm (sA s21 2 v2.toNatClampNeg (3 : Int32)) fun (s49 : ST) =>
      if (v2 + (1 : Int32)) < 0 ∨ 11 ≤ (v2 + (1 : Int32)).toNatClampNeg then none else
      (fX3_tallest F s49 v2).bind fun r52 =>
      if v2 < 0 ∨ 11 ≤ v2.toNatClampNeg then none else
      nm (sL s49 3 v2.toNatClampNeg ((s49.2.2.2 3 (v2 + (1 : Int32)).toNatClampNeg) ||| r52)) fun (s55 : ST) =>
      nm (sA s55 4 v2.toNatClampNeg ((s55.2.1 4 (v2 + (1 : Int32)).toNatClampNeg) * (s55.2.1 2 v2.toNatClampNeg))) fun (s57 : ST) =>
      rc (v2 + (-1)) s57
def gX3_prepare_59 (F : Nat) (σss : ST) : Nat → Int32 → ST → Option (Int32 × ST)
  | 0, _, _ => none
  | n + 1, v2, σpp => gbX3_prepare_59 F σss (gX3_prepare_59 F σss n) v2 σpp
set_option maxHeartbeats 4000000 in
set_option maxRecDepth 100000 in
theorem kX3_prepare_59 {p : Program} {l : Launch} {e : Env} {s : State} {m : MethodId} {args : Array Value} {below : List Frame} {meth : Method} {c : Code} {A : Nat → Prop} {Q : State → Prop} {G : GP} (K : Cx p s m meth c G cX3_prepare RX3 3 none args A) (F : Nat) (pp : Nat → Nat) (ss : Nat → Nat) (σss : ST) {z : Int32 × ST} (kk : ∀ (H : Heap) (locs : List Loc) (ls : Array Slot), va_P G.1 vwCl (List.flatten [wP G pp z.2, wS G ss σss]) H → va_D A (List.flatten [wP G pp z.2, wS G ss σss]) → va_S A s.heap H locs → lv_has ls 3 [(0, .ref (pp 0)), (1, .ref (ss 0)), (2, .int z.1)] → W p l e (RM 5) s m args below meth c H locs 0 0 Q (F0 m 175 ls [])) :
    ∀ (n : Nat) (v2 : Int32) (σpp : ST) (H : Heap) (locs : List Loc) (ls : Array Slot), va_P G.1 vwCl (List.flatten [wP G pp σpp, wS G ss σss]) H → va_D A (List.flatten [wP G pp σpp, wS G ss σss]) → va_S A s.heap H locs → lv_has ls 3 [(0, .ref (pp 0)), (1, .ref (ss 0)), (2, .int v2)] → gX3_prepare_59 F σss n v2 σpp = some z → W p l e (RM 5) s m args below meth c H locs 0 0 Q (F0 m 59 ls []) := by
  obtain ⟨hx, hb, hr, hml, hts, hown, hlocks, hA, hG⟩ := id K
  intro n
  induction n with
  | zero =>
    intro v2 σpp H locs ls hP hD hS hl h
    have h : none = some z := h
    cases h
  | succ n ih =>
    intro v2 σpp H locs ls hP hD hS hl h
    have h : gbX3_prepare_59 F σss (gX3_prepare_59 F σss n) v2 σpp = some z := h
    unfold gbX3_prepare_59 at h
    refine lv_iload_n hx hb dX3_prepare_59 rfl (lv_at hl 2 rfl) ?_
    refine lv_if_lt (tgt := 175) hx hb dX3_prepare_60 (by decide) (fun c13 => ?_) (fun c13 => ?_)
    · have h := if_t c13 h
      cases h
      exact kk _ _ _ hP hD hS (lv_sub hl [0, 1, 2] rfl)
    · have h := if_f c13 h
      refine lv_aload_n hx hb dX3_prepare_63 rfl (lv_at hl 0 rfl) ?_
      refine va_get (D := G.1) (cl := vwCl) (tys := tysG G) (ci := 3) (v := .ref (pp 1)) (C := RX3) (T := TX3) (N := 8) hx hb hts iX3 hown hG.1 hP 0 rfl rfl 0 (Nat.le_of_ble_eq_true rfl) (hts _ tw_1_232) (fun _ h9 => h9) rfl dX3_prepare_64 ?_
      refine lv_iload_n hx hb dX3_prepare_67 rfl (lv_at hl 2 rfl) ?_
      refine lv_iconst (v := 1) hx hb dX3_prepare_68 li_1 ?_
      refine lv_iload_n hx hb dX3_prepare_69 rfl (lv_at hl 2 rfl) ?_
      refine lv_aload_n hx hb dX3_prepare_70 rfl (lv_at hl 1 rfl) ?_
      obtain ⟨r14, hc15, h⟩ := bd_ex h
      refine sl_S K (mX3_shadowsOf l G F ss σss (1 : Int32) v2 hc15) tw_4_6 tw_1_10 tw_4_5 tw_4_4 cdX3_shadowsOf ⟨Nat.le_of_ble_eq_true rfl, Nat.le_of_ble_eq_true rfl⟩ hP hD hS [1] rfl rfl rfl rfl hl.1 (Nat.le_of_ble_eq_true rfl) ⟨Nat.zero_le _, Nat.zero_le _⟩ dX3_prepare_71 (fun H locs hP hD hS => ?_)
      have hP : va_P G.1 vwCl (List.flatten [wP G pp σpp, wS G ss σss]) H := hP
      have hD : va_D A (List.flatten [wP G pp σpp, wS G ss σss]) := hD
      obtain ⟨ck16, h⟩ := ck h
      obtain ⟨s17, e18, h⟩ := nm_ex h
      refine va_last hx hb hG.1 hP hD hS 1 1 rfl rfl ck16 dX3_prepare_74 (fun H locs hP hD hS => ?_)
      have hP : va_P G.1 vwCl (List.flatten [wP G pp s17, wS G ss σss]) H := by rw [e18]; exact hP
      have hD : va_D A (List.flatten [wP G pp s17, wS G ss σss]) := by rw [e18]; exact hD
      refine lv_aload_n hx hb dX3_prepare_75 rfl (lv_at hl 0 rfl) ?_
      refine va_get (D := G.1) (cl := vwCl) (tys := tysG G) (ci := 3) (v := .ref (pp 2)) (C := RX3) (T := TX3) (N := 8) hx hb hts iX3 hown hG.1 hP 0 rfl rfl 1 (Nat.le_of_ble_eq_true rfl) (hts _ tw_1_233) (fun _ h9 => h9) rfl dX3_prepare_76 ?_
      refine lv_iload_n hx hb dX3_prepare_79 rfl (lv_at hl 2 rfl) ?_
      refine lv_iconst (v := 0) hx hb dX3_prepare_80 li_0 ?_
      refine lv_iload_n hx hb dX3_prepare_81 rfl (lv_at hl 2 rfl) ?_
      refine lv_aload_n hx hb dX3_prepare_82 rfl (lv_at hl 1 rfl) ?_
      obtain ⟨r19, hc20, h⟩ := bd_ex h
      refine sl_S K (mX3_shadowsOf l G F ss σss (0 : Int32) v2 hc20) tw_4_6 tw_1_10 tw_4_5 tw_4_4 cdX3_shadowsOf ⟨Nat.le_of_ble_eq_true rfl, Nat.le_of_ble_eq_true rfl⟩ hP hD hS [1] rfl rfl rfl rfl hl.1 (Nat.le_of_ble_eq_true rfl) ⟨Nat.zero_le _, Nat.zero_le _⟩ dX3_prepare_83 (fun H locs hP hD hS => ?_)
      have hP : va_P G.1 vwCl (List.flatten [wP G pp s17, wS G ss σss]) H := hP
      have hD : va_D A (List.flatten [wP G pp s17, wS G ss σss]) := hD
      obtain ⟨s21, e22, h⟩ := nm_ex h
      refine va_last hx hb hG.1 hP hD hS 2 1 rfl rfl ck16 dX3_prepare_86 (fun H locs hP hD hS => ?_)
      have hP : va_P G.1 vwCl (List.flatten [wP G pp s21, wS G ss σss]) H := by rw [e22]; exact hP
      have hD : va_D A (List.flatten [wP G pp s21, wS G ss σss]) := by rw [e22]; exact hD
      refine lv_aload_n hx hb dX3_prepare_87 rfl (lv_at hl 0 rfl) ?_
      refine va_get (D := G.1) (cl := vwCl) (tys := tysG G) (ci := 3) (v := .ref (pp 3)) (C := RX3) (T := TX3) (N := 8) hx hb hts iX3 hown hG.1 hP 0 rfl rfl 2 (Nat.le_of_ble_eq_true rfl) (hts _ tw_1_234) (fun _ h9 => h9) rfl dX3_prepare_88 ?_
      refine lv_iload_n hx hb dX3_prepare_91 rfl (lv_at hl 2 rfl) ?_
      refine lv_aload_n hx hb dX3_prepare_92 rfl (lv_at hl 0 rfl) ?_
      refine lv_aload_n hx hb dX3_prepare_93 rfl (lv_at hl 0 rfl) ?_
      refine va_get (D := G.1) (cl := vwCl) (tys := tysG G) (ci := 3) (v := .ref (pp 2)) (C := RX3) (T := TX3) (N := 8) hx hb hts iX3 hown hG.1 hP 0 rfl rfl 1 (Nat.le_of_ble_eq_true rfl) (hts _ tw_1_233) (fun _ h9 => h9) rfl dX3_prepare_94 ?_
      refine lv_iload_n hx hb dX3_prepare_97 rfl (lv_at hl 2 rfl) ?_
      refine va_lald hx hb hG.1 hP 2 1 rfl rfl ck16 dX3_prepare_98 ?_
      obtain ⟨r23, hc24, h⟩ := bd_ex h
      refine sl_V (q0 := 0) (ci := 3) (C := RX3) K (mX3_mayStand l G F pp s21 (s21.2.2.2 1 v2.toNatClampNeg) hc24) tw_4_12 tw_1_10 tw_4_10 tw_4_11 tw_4_9 cdX3_mayStand ⟨Nat.le_of_ble_eq_true rfl, Nat.le_of_ble_eq_true rfl⟩ hP hD hS [0] rfl rfl rfl rfl rfl rfl rfl hl.1 (Nat.le_of_ble_eq_true rfl) ⟨Nat.zero_le _, Nat.zero_le _⟩ dX3_prepare_99 (fun H locs hP hD hS => ?_)
      have hP : va_P G.1 vwCl (List.flatten [wP G pp s21, wS G ss σss]) H := hP
      have hD : va_D A (List.flatten [wP G pp s21, wS G ss σss]) := hD
      refine lv_if_eq (tgt := 109) hx hb dX3_prepare_102 (by decide) (fun c25 => ?_) (fun c25 => ?_)
      · have h := if_t c25 h
        refine lv_aload_n hx hb dX3_prepare_109 rfl (lv_at hl 0 rfl) ?_
        refine lv_aload_n hx hb dX3_prepare_110 rfl (lv_at hl 0 rfl) ?_
        refine va_get (D := G.1) (cl := vwCl) (tys := tysG G) (ci := 3) (v := .ref (pp 1)) (C := RX3) (T := TX3) (N := 8) hx hb hts iX3 hown hG.1 hP 0 rfl rfl 0 (Nat.le_of_ble_eq_true rfl) (hts _ tw_1_232) (fun _ h9 => h9) rfl dX3_prepare_111 ?_
        refine lv_iload_n hx hb dX3_prepare_114 rfl (lv_at hl 2 rfl) ?_
        refine va_lald hx hb hG.1 hP 1 1 rfl rfl ck16 dX3_prepare_115 ?_
        obtain ⟨r26, hc27, h⟩ := bd_ex h
        refine sl_V (q0 := 0) (ci := 3) (C := RX3) K (mX3_mayStand l G F pp s21 (s21.2.2.2 0 v2.toNatClampNeg) hc27) tw_4_12 tw_1_10 tw_4_10 tw_4_11 tw_4_9 cdX3_mayStand ⟨Nat.le_of_ble_eq_true rfl, Nat.le_of_ble_eq_true rfl⟩ hP hD hS [0] rfl rfl rfl rfl rfl rfl rfl hl.1 (Nat.le_of_ble_eq_true rfl) ⟨Nat.zero_le _, Nat.zero_le _⟩ dX3_prepare_116 (fun H locs hP hD hS => ?_)
        have hP : va_P G.1 vwCl (List.flatten [wP G pp s21, wS G ss σss]) H := hP
        have hD : va_D A (List.flatten [wP G pp s21, wS G ss σss]) := hD
        refine lv_if_eq (tgt := 126) hx hb dX3_prepare_119 (by decide) (fun c28 => ?_) (fun c28 => ?_)
        · have h := if_t c28 h
          refine lv_iconst (v := 1) hx hb dX3_prepare_126 li_1 ?_
          obtain ⟨s29, e30, h⟩ := nm_ex h
          refine va_iast hx hb hG.1 hP hD hS 3 0 rfl rfl ck16 dX3_prepare_127 (fun H locs hP hD hS => ?_)
          have hP : va_P G.1 vwCl (List.flatten [wP G pp s29, wS G ss σss]) H := by rw [e30]; exact hP
          have hD : va_D A (List.flatten [wP G pp s29, wS G ss σss]) := by rw [e30]; exact hD
          refine lv_aload_n hx hb dX3_prepare_128 rfl (lv_at hl 0 rfl) ?_
          refine va_get (D := G.1) (cl := vwCl) (tys := tysG G) (ci := 3) (v := .ref (pp 4)) (C := RX3) (T := TX3) (N := 8) hx hb hts iX3 hown hG.1 hP 0 rfl rfl 3 (Nat.le_of_ble_eq_true rfl) (hts _ tw_1_235) (fun _ h9 => h9) rfl dX3_prepare_129 ?_
          refine lv_iload_n hx hb dX3_prepare_132 rfl (lv_at hl 2 rfl) ?_
          refine lv_aload_n hx hb dX3_prepare_133 rfl (lv_at hl 0 rfl) ?_
          refine va_get (D := G.1) (cl := vwCl) (tys := tysG G) (ci := 3) (v := .ref (pp 4)) (C := RX3) (T := TX3) (N := 8) hx hb hts iX3 hown hG.1 hP 0 rfl rfl 3 (Nat.le_of_ble_eq_true rfl) (hts _ tw_1_235) (fun _ h9 => h9) rfl dX3_prepare_134 ?_
          refine lv_iload_n hx hb dX3_prepare_137 rfl (lv_at hl 2 rfl) ?_
          refine lv_iconst (v := 1) hx hb dX3_prepare_138 li_1 ?_
          refine lv_iadd hx hb dX3_prepare_139 ?_
          obtain ⟨ck31, h⟩ := ck h
          refine va_lald hx hb hG.1 hP 4 1 rfl rfl ck31 dX3_prepare_140 ?_
          refine lv_aload_n hx hb dX3_prepare_141 rfl (lv_at hl 0 rfl) ?_
          refine lv_iload_n hx hb dX3_prepare_142 rfl (lv_at hl 2 rfl) ?_
          obtain ⟨r32, hc33, h⟩ := bd_ex h
          refine sl_V (q0 := 0) (ci := 3) (C := RX3) K (mX3_tallest l G F pp s29 v2 hc33) tw_4_17 tw_1_10 tw_4_15 tw_4_16 tw_4_14 cdX3_tallest ⟨Nat.le_of_ble_eq_true rfl, Nat.le_of_ble_eq_true rfl⟩ hP hD hS [0] rfl rfl rfl rfl rfl rfl rfl hl.1 (Nat.le_of_ble_eq_true rfl) ⟨Nat.zero_le _, Nat.zero_le _⟩ dX3_prepare_143 (fun H locs hP hD hS => ?_)
          have hP : va_P G.1 vwCl (List.flatten [wP G pp s29, wS G ss σss]) H := hP
          have hD : va_D A (List.flatten [wP G pp s29, wS G ss σss]) := hD
          refine lv_lor hx hb dX3_prepare_146 ?_
          obtain ⟨ck34, h⟩ := ck h
          obtain ⟨s35, e36, h⟩ := nm_ex h
          refine va_last hx hb hG.1 hP hD hS 4 1 rfl rfl ck34 dX3_prepare_147 (fun H locs hP hD hS => ?_)
          have hP : va_P G.1 vwCl (List.flatten [wP G pp s35, wS G ss σss]) H := by rw [e36]; exact hP
          have hD : va_D A (List.flatten [wP G pp s35, wS G ss σss]) := by rw [e36]; exact hD
          refine lv_aload_n hx hb dX3_prepare_148 rfl (lv_at hl 0 rfl) ?_
          refine va_get (D := G.1) (cl := vwCl) (tys := tysG G) (ci := 3) (v := .ref (pp 5)) (C := RX3) (T := TX3) (N := 8) hx hb hts iX3 hown hG.1 hP 0 rfl rfl 4 (Nat.le_of_ble_eq_true rfl) (hts _ tw_1_236) (fun _ h9 => h9) rfl dX3_prepare_149 ?_
          refine lv_iload_n hx hb dX3_prepare_152 rfl (lv_at hl 2 rfl) ?_
          refine lv_aload_n hx hb dX3_prepare_153 rfl (lv_at hl 0 rfl) ?_
          refine va_get (D := G.1) (cl := vwCl) (tys := tysG G) (ci := 3) (v := .ref (pp 5)) (C := RX3) (T := TX3) (N := 8) hx hb hts iX3 hown hG.1 hP 0 rfl rfl 4 (Nat.le_of_ble_eq_true rfl) (hts _ tw_1_236) (fun _ h9 => h9) rfl dX3_prepare_154 ?_
          refine lv_iload_n hx hb dX3_prepare_157 rfl (lv_at hl 2 rfl) ?_
          refine lv_iconst (v := 1) hx hb dX3_prepare_158 li_1 ?_
          refine lv_iadd hx hb dX3_prepare_159 ?_
          refine va_iald hx hb hG.1 hP 5 0 rfl rfl ck31 dX3_prepare_160 ?_
          refine lv_aload_n hx hb dX3_prepare_161 rfl (lv_at hl 0 rfl) ?_
          refine va_get (D := G.1) (cl := vwCl) (tys := tysG G) (ci := 3) (v := .ref (pp 3)) (C := RX3) (T := TX3) (N := 8) hx hb hts iX3 hown hG.1 hP 0 rfl rfl 2 (Nat.le_of_ble_eq_true rfl) (hts _ tw_1_234) (fun _ h9 => h9) rfl dX3_prepare_162 ?_
          refine lv_iload_n hx hb dX3_prepare_165 rfl (lv_at hl 2 rfl) ?_
          refine va_iald hx hb hG.1 hP 3 0 rfl rfl ck16 dX3_prepare_166 ?_
          refine lv_imul hx hb dX3_prepare_167 ?_
          obtain ⟨s37, e38, h⟩ := nm_ex h
          refine va_iast hx hb hG.1 hP hD hS 5 0 rfl rfl ck34 dX3_prepare_168 (fun H locs hP hD hS => ?_)
          have hP : va_P G.1 vwCl (List.flatten [wP G pp s37, wS G ss σss]) H := by rw [e38]; exact hP
          have hD : va_D A (List.flatten [wP G pp s37, wS G ss σss]) := by rw [e38]; exact hD
          refine lv_iinc (v := v2 + (-1)) (lv' := [(2, .int (v2 + (-1))), (0, .ref (pp 0)), (1, .ref (ss 0))]) hx hb dX3_prepare_169 hl (k := 2) rfl (by rw [li_m1]) (Nat.le_of_ble_eq_true rfl) rfl (fun ls hl => ?_)
          refine lv_goto (tgt := 59) hx hb dX3_prepare_172 (by decide) ?_
          exact ih (v2 + (-1)) s37 _ _ _ hP hD hS (lv_sub hl [1, 2, 0] rfl) h
        · have h := if_f c28 h
          refine lv_iconst (v := 2) hx hb dX3_prepare_122 li_2 ?_
          refine lv_goto (tgt := 127) hx hb dX3_prepare_123 (by decide) ?_
          obtain ⟨s39, e40, h⟩ := nm_ex h
          refine va_iast hx hb hG.1 hP hD hS 3 0 rfl rfl ck16 dX3_prepare_127 (fun H locs hP hD hS => ?_)
          have hP : va_P G.1 vwCl (List.flatten [wP G pp s39, wS G ss σss]) H := by rw [e40]; exact hP
          have hD : va_D A (List.flatten [wP G pp s39, wS G ss σss]) := by rw [e40]; exact hD
          refine lv_aload_n hx hb dX3_prepare_128 rfl (lv_at hl 0 rfl) ?_
          refine va_get (D := G.1) (cl := vwCl) (tys := tysG G) (ci := 3) (v := .ref (pp 4)) (C := RX3) (T := TX3) (N := 8) hx hb hts iX3 hown hG.1 hP 0 rfl rfl 3 (Nat.le_of_ble_eq_true rfl) (hts _ tw_1_235) (fun _ h9 => h9) rfl dX3_prepare_129 ?_
          refine lv_iload_n hx hb dX3_prepare_132 rfl (lv_at hl 2 rfl) ?_
          refine lv_aload_n hx hb dX3_prepare_133 rfl (lv_at hl 0 rfl) ?_
          refine va_get (D := G.1) (cl := vwCl) (tys := tysG G) (ci := 3) (v := .ref (pp 4)) (C := RX3) (T := TX3) (N := 8) hx hb hts iX3 hown hG.1 hP 0 rfl rfl 3 (Nat.le_of_ble_eq_true rfl) (hts _ tw_1_235) (fun _ h9 => h9) rfl dX3_prepare_134 ?_
          refine lv_iload_n hx hb dX3_prepare_137 rfl (lv_at hl 2 rfl) ?_
          refine lv_iconst (v := 1) hx hb dX3_prepare_138 li_1 ?_
          refine lv_iadd hx hb dX3_prepare_139 ?_
          obtain ⟨ck41, h⟩ := ck h
          refine va_lald hx hb hG.1 hP 4 1 rfl rfl ck41 dX3_prepare_140 ?_
          refine lv_aload_n hx hb dX3_prepare_141 rfl (lv_at hl 0 rfl) ?_
          refine lv_iload_n hx hb dX3_prepare_142 rfl (lv_at hl 2 rfl) ?_
          obtain ⟨r42, hc43, h⟩ := bd_ex h
          refine sl_V (q0 := 0) (ci := 3) (C := RX3) K (mX3_tallest l G F pp s39 v2 hc43) tw_4_17 tw_1_10 tw_4_15 tw_4_16 tw_4_14 cdX3_tallest ⟨Nat.le_of_ble_eq_true rfl, Nat.le_of_ble_eq_true rfl⟩ hP hD hS [0] rfl rfl rfl rfl rfl rfl rfl hl.1 (Nat.le_of_ble_eq_true rfl) ⟨Nat.zero_le _, Nat.zero_le _⟩ dX3_prepare_143 (fun H locs hP hD hS => ?_)
          have hP : va_P G.1 vwCl (List.flatten [wP G pp s39, wS G ss σss]) H := hP
          have hD : va_D A (List.flatten [wP G pp s39, wS G ss σss]) := hD
          refine lv_lor hx hb dX3_prepare_146 ?_
          obtain ⟨ck44, h⟩ := ck h
          obtain ⟨s45, e46, h⟩ := nm_ex h
          refine va_last hx hb hG.1 hP hD hS 4 1 rfl rfl ck44 dX3_prepare_147 (fun H locs hP hD hS => ?_)
          have hP : va_P G.1 vwCl (List.flatten [wP G pp s45, wS G ss σss]) H := by rw [e46]; exact hP
          have hD : va_D A (List.flatten [wP G pp s45, wS G ss σss]) := by rw [e46]; exact hD
          refine lv_aload_n hx hb dX3_prepare_148 rfl (lv_at hl 0 rfl) ?_
          refine va_get (D := G.1) (cl := vwCl) (tys := tysG G) (ci := 3) (v := .ref (pp 5)) (C := RX3) (T := TX3) (N := 8) hx hb hts iX3 hown hG.1 hP 0 rfl rfl 4 (Nat.le_of_ble_eq_true rfl) (hts _ tw_1_236) (fun _ h9 => h9) rfl dX3_prepare_149 ?_
          refine lv_iload_n hx hb dX3_prepare_152 rfl (lv_at hl 2 rfl) ?_
          refine lv_aload_n hx hb dX3_prepare_153 rfl (lv_at hl 0 rfl) ?_
          refine va_get (D := G.1) (cl := vwCl) (tys := tysG G) (ci := 3) (v := .ref (pp 5)) (C := RX3) (T := TX3) (N := 8) hx hb hts iX3 hown hG.1 hP 0 rfl rfl 4 (Nat.le_of_ble_eq_true rfl) (hts _ tw_1_236) (fun _ h9 => h9) rfl dX3_prepare_154 ?_
          refine lv_iload_n hx hb dX3_prepare_157 rfl (lv_at hl 2 rfl) ?_
          refine lv_iconst (v := 1) hx hb dX3_prepare_158 li_1 ?_
          refine lv_iadd hx hb dX3_prepare_159 ?_
          refine va_iald hx hb hG.1 hP 5 0 rfl rfl ck41 dX3_prepare_160 ?_
          refine lv_aload_n hx hb dX3_prepare_161 rfl (lv_at hl 0 rfl) ?_
          refine va_get (D := G.1) (cl := vwCl) (tys := tysG G) (ci := 3) (v := .ref (pp 3)) (C := RX3) (T := TX3) (N := 8) hx hb hts iX3 hown hG.1 hP 0 rfl rfl 2 (Nat.le_of_ble_eq_true rfl) (hts _ tw_1_234) (fun _ h9 => h9) rfl dX3_prepare_162 ?_
          refine lv_iload_n hx hb dX3_prepare_165 rfl (lv_at hl 2 rfl) ?_
          refine va_iald hx hb hG.1 hP 3 0 rfl rfl ck16 dX3_prepare_166 ?_
          refine lv_imul hx hb dX3_prepare_167 ?_
          obtain ⟨s47, e48, h⟩ := nm_ex h
          refine va_iast hx hb hG.1 hP hD hS 5 0 rfl rfl ck44 dX3_prepare_168 (fun H locs hP hD hS => ?_)
          have hP : va_P G.1 vwCl (List.flatten [wP G pp s47, wS G ss σss]) H := by rw [e48]; exact hP
          have hD : va_D A (List.flatten [wP G pp s47, wS G ss σss]) := by rw [e48]; exact hD
          refine lv_iinc (v := v2 + (-1)) (lv' := [(2, .int (v2 + (-1))), (0, .ref (pp 0)), (1, .ref (ss 0))]) hx hb dX3_prepare_169 hl (k := 2) rfl (by rw [li_m1]) (Nat.le_of_ble_eq_true rfl) rfl (fun ls hl => ?_)
          refine lv_goto (tgt := 59) hx hb dX3_prepare_172 (by decide) ?_
          exact ih (v2 + (-1)) s47 _ _ _ hP hD hS (lv_sub hl [1, 2, 0] rfl) h
      · have h := if_f c25 h
        refine lv_iconst (v := 3) hx hb dX3_prepare_105 li_3 ?_
        refine lv_goto (tgt := 127) hx hb dX3_prepare_106 (by decide) ?_
        obtain ⟨s49, e50, h⟩ := nm_ex h
        refine va_iast hx hb hG.1 hP hD hS 3 0 rfl rfl ck16 dX3_prepare_127 (fun H locs hP hD hS => ?_)
        have hP : va_P G.1 vwCl (List.flatten [wP G pp s49, wS G ss σss]) H := by rw [e50]; exact hP
        have hD : va_D A (List.flatten [wP G pp s49, wS G ss σss]) := by rw [e50]; exact hD
        refine lv_aload_n hx hb dX3_prepare_128 rfl (lv_at hl 0 rfl) ?_
        refine va_get (D := G.1) (cl := vwCl) (tys := tysG G) (ci := 3) (v := .ref (pp 4)) (C := RX3) (T := TX3) (N := 8) hx hb hts iX3 hown hG.1 hP 0 rfl rfl 3 (Nat.le_of_ble_eq_true rfl) (hts _ tw_1_235) (fun _ h9 => h9) rfl dX3_prepare_129 ?_
        refine lv_iload_n hx hb dX3_prepare_132 rfl (lv_at hl 2 rfl) ?_
        refine lv_aload_n hx hb dX3_prepare_133 rfl (lv_at hl 0 rfl) ?_
        refine va_get (D := G.1) (cl := vwCl) (tys := tysG G) (ci := 3) (v := .ref (pp 4)) (C := RX3) (T := TX3) (N := 8) hx hb hts iX3 hown hG.1 hP 0 rfl rfl 3 (Nat.le_of_ble_eq_true rfl) (hts _ tw_1_235) (fun _ h9 => h9) rfl dX3_prepare_134 ?_
        refine lv_iload_n hx hb dX3_prepare_137 rfl (lv_at hl 2 rfl) ?_
        refine lv_iconst (v := 1) hx hb dX3_prepare_138 li_1 ?_
        refine lv_iadd hx hb dX3_prepare_139 ?_
        obtain ⟨ck51, h⟩ := ck h
        refine va_lald hx hb hG.1 hP 4 1 rfl rfl ck51 dX3_prepare_140 ?_
        refine lv_aload_n hx hb dX3_prepare_141 rfl (lv_at hl 0 rfl) ?_
        refine lv_iload_n hx hb dX3_prepare_142 rfl (lv_at hl 2 rfl) ?_
        obtain ⟨r52, hc53, h⟩ := bd_ex h
        refine sl_V (q0 := 0) (ci := 3) (C := RX3) K (mX3_tallest l G F pp s49 v2 hc53) tw_4_17 tw_1_10 tw_4_15 tw_4_16 tw_4_14 cdX3_tallest ⟨Nat.le_of_ble_eq_true rfl, Nat.le_of_ble_eq_true rfl⟩ hP hD hS [0] rfl rfl rfl rfl rfl rfl rfl hl.1 (Nat.le_of_ble_eq_true rfl) ⟨Nat.zero_le _, Nat.zero_le _⟩ dX3_prepare_143 (fun H locs hP hD hS => ?_)
        have hP : va_P G.1 vwCl (List.flatten [wP G pp s49, wS G ss σss]) H := hP
        have hD : va_D A (List.flatten [wP G pp s49, wS G ss σss]) := hD
        refine lv_lor hx hb dX3_prepare_146 ?_
        obtain ⟨ck54, h⟩ := ck h
        obtain ⟨s55, e56, h⟩ := nm_ex h
        refine va_last hx hb hG.1 hP hD hS 4 1 rfl rfl ck54 dX3_prepare_147 (fun H locs hP hD hS => ?_)
        have hP : va_P G.1 vwCl (List.flatten [wP G pp s55, wS G ss σss]) H := by rw [e56]; exact hP
        have hD : va_D A (List.flatten [wP G pp s55, wS G ss σss]) := by rw [e56]; exact hD
        refine lv_aload_n hx hb dX3_prepare_148 rfl (lv_at hl 0 rfl) ?_
        refine va_get (D := G.1) (cl := vwCl) (tys := tysG G) (ci := 3) (v := .ref (pp 5)) (C := RX3) (T := TX3) (N := 8) hx hb hts iX3 hown hG.1 hP 0 rfl rfl 4 (Nat.le_of_ble_eq_true rfl) (hts _ tw_1_236) (fun _ h9 => h9) rfl dX3_prepare_149 ?_
        refine lv_iload_n hx hb dX3_prepare_152 rfl (lv_at hl 2 rfl) ?_
        refine lv_aload_n hx hb dX3_prepare_153 rfl (lv_at hl 0 rfl) ?_
        refine va_get (D := G.1) (cl := vwCl) (tys := tysG G) (ci := 3) (v := .ref (pp 5)) (C := RX3) (T := TX3) (N := 8) hx hb hts iX3 hown hG.1 hP 0 rfl rfl 4 (Nat.le_of_ble_eq_true rfl) (hts _ tw_1_236) (fun _ h9 => h9) rfl dX3_prepare_154 ?_
        refine lv_iload_n hx hb dX3_prepare_157 rfl (lv_at hl 2 rfl) ?_
        refine lv_iconst (v := 1) hx hb dX3_prepare_158 li_1 ?_
        refine lv_iadd hx hb dX3_prepare_159 ?_
        refine va_iald hx hb hG.1 hP 5 0 rfl rfl ck51 dX3_prepare_160 ?_
        refine lv_aload_n hx hb dX3_prepare_161 rfl (lv_at hl 0 rfl) ?_
        refine va_get (D := G.1) (cl := vwCl) (tys := tysG G) (ci := 3) (v := .ref (pp 3)) (C := RX3) (T := TX3) (N := 8) hx hb hts iX3 hown hG.1 hP 0 rfl rfl 2 (Nat.le_of_ble_eq_true rfl) (hts _ tw_1_234) (fun _ h9 => h9) rfl dX3_prepare_162 ?_
        refine lv_iload_n hx hb dX3_prepare_165 rfl (lv_at hl 2 rfl) ?_
        refine va_iald hx hb hG.1 hP 3 0 rfl rfl ck16 dX3_prepare_166 ?_
        refine lv_imul hx hb dX3_prepare_167 ?_
        obtain ⟨s57, e58, h⟩ := nm_ex h
        refine va_iast hx hb hG.1 hP hD hS 5 0 rfl rfl ck54 dX3_prepare_168 (fun H locs hP hD hS => ?_)
        have hP : va_P G.1 vwCl (List.flatten [wP G pp s57, wS G ss σss]) H := by rw [e58]; exact hP
        have hD : va_D A (List.flatten [wP G pp s57, wS G ss σss]) := by rw [e58]; exact hD
        refine lv_iinc (v := v2 + (-1)) (lv' := [(2, .int (v2 + (-1))), (0, .ref (pp 0)), (1, .ref (ss 0))]) hx hb dX3_prepare_169 hl (k := 2) rfl (by rw [li_m1]) (Nat.le_of_ble_eq_true rfl) rfl (fun ls hl => ?_)
        refine lv_goto (tgt := 59) hx hb dX3_prepare_172 (by decide) ?_
        exact ih (v2 + (-1)) s57 _ _ _ hP hD hS (lv_sub hl [1, 2, 0] rfl) h
def fX3_prepare (F : Nat) (σpp : ST) (σss : ST)  : Option (ST) :=
  nm (sJ σpp 7 (0 : Int64)) fun (s1 : ST) =>
  (gX3_prepare_7 F σss F (0 : Int32) s1).bind fun z7 =>
    nm (sL z7.2 3 (10 : Int32).toNatClampNeg (0 : Int64)) fun (s9 : ST) =>
    nm (sA s9 4 (10 : Int32).toNatClampNeg (1 : Int32)) fun (s11 : ST) =>
    (gX3_prepare_59 F σss F (9 : Int32) s11).bind fun z59 =>
      some z59.2
theorem cdX3_prepare : CallD yX3_prepare 1 := by decide +kernel
set_option maxHeartbeats 4000000 in
set_option maxRecDepth 100000 in
theorem mX3_prepare (l : Launch) (G : GP) (F : Nat) (pp : Nat → Nat) (ss : Nat → Nat) (σpp : ST) (σss : ST)  {r : ST} (h : fX3_prepare F σpp σss  = some r) : CC l G yX3_prepare cX3_prepare 3 none 5 [.ref (pp 0), .ref (ss 0)] (List.flatten [wP G pp σpp, wS G ss σss]) (List.flatten [wP G pp r, wS G ss σss]) none := by
  refine CC.of (by decide) (Nat.le_of_ble_eq_true rfl) ?_
  intro p e s m below meth c A K hP hD hS ls hl
  obtain ⟨hx, hb, hr, hml, hts, hown, hlocks, hA, hG⟩ := id K
  have hl : lv_has ls 3 [(0, .ref (pp 0)), (1, .ref (ss 0))] := hl
  unfold fX3_prepare at h
  refine lv_aload_n hx hb dX3_prepare_0 rfl (lv_at hl 0 rfl) ?_
  refine lv_lconst (v := 0) hx hb dX3_prepare_1 ll_0 ?_
  obtain ⟨s1, e2, h⟩ := nm_ex h
  refine va_put (D := G.1) (cl := vwCl) (tys := tysG G) (ci := 3) (v := .long (0 : Int64)) (ty := .long) (C := RX3) (T := TX3) (N := 8) hx hb hts iX3 tyX3 tyX3_ok nmX3 hown hG.1 hP hD hS 0 rfl rfl 7 (Nat.le_of_ble_eq_true rfl) (hts _ tw_1_239) (fun _ h9 => h9) rfl (by decide +kernel) rfl rfl (Nat.le_of_ble_eq_true rfl) dX3_prepare_2 (fun H locs hP hD hS => ?_)
  have hP : va_P G.1 vwCl (List.flatten [wP G pp s1, wS G ss σss]) H := by rw [e2]; exact hP
  have hD : va_D A (List.flatten [wP G pp s1, wS G ss σss]) := by rw [e2]; exact hD
  refine lv_iconst (v := 0) hx hb dX3_prepare_5 li_0 ?_
  refine lv_istore_n (lv' := [(2, .int (0 : Int32)), (0, .ref (pp 0)), (1, .ref (ss 0))]) hx hb dX3_prepare_6 rfl hl (Nat.le_of_ble_eq_true rfl) rfl (fun ls hl => ?_)
  obtain ⟨z7, hz8, h⟩ := bd_ex h
  refine kX3_prepare_7 K F pp ss σss (fun H locs ls hP hD hS hl => ?_) F (0 : Int32) s1 _ _ _ hP hD hS (lv_sub hl [1, 2, 0] rfl) hz8
  refine lv_aload_n hx hb dX3_prepare_40 rfl (lv_at hl 0 rfl) ?_
  refine va_get (D := G.1) (cl := vwCl) (tys := tysG G) (ci := 3) (v := .ref (pp 4)) (C := RX3) (T := TX3) (N := 8) hx hb hts iX3 hown hG.1 hP 0 rfl rfl 3 (Nat.le_of_ble_eq_true rfl) (hts _ tw_1_235) (fun _ h9 => h9) rfl dX3_prepare_41 ?_
  refine lv_bipush (v := 10) hx hb dX3_prepare_44 lb_10 ?_
  refine lv_lconst (v := 0) hx hb dX3_prepare_46 ll_0 ?_
  obtain ⟨s9, e10, h⟩ := nm_ex h
  refine va_last hx hb hG.1 hP hD hS 4 1 rfl rfl (vpi (by decide)) dX3_prepare_47 (fun H locs hP hD hS => ?_)
  have hP : va_P G.1 vwCl (List.flatten [wP G pp s9, wS G ss σss]) H := by rw [e10]; exact hP
  have hD : va_D A (List.flatten [wP G pp s9, wS G ss σss]) := by rw [e10]; exact hD
  refine lv_aload_n hx hb dX3_prepare_48 rfl (lv_at hl 0 rfl) ?_
  refine va_get (D := G.1) (cl := vwCl) (tys := tysG G) (ci := 3) (v := .ref (pp 5)) (C := RX3) (T := TX3) (N := 8) hx hb hts iX3 hown hG.1 hP 0 rfl rfl 4 (Nat.le_of_ble_eq_true rfl) (hts _ tw_1_236) (fun _ h9 => h9) rfl dX3_prepare_49 ?_
  refine lv_bipush (v := 10) hx hb dX3_prepare_52 lb_10 ?_
  refine lv_iconst (v := 1) hx hb dX3_prepare_54 li_1 ?_
  obtain ⟨s11, e12, h⟩ := nm_ex h
  refine va_iast hx hb hG.1 hP hD hS 5 0 rfl rfl (vpi (by decide)) dX3_prepare_55 (fun H locs hP hD hS => ?_)
  have hP : va_P G.1 vwCl (List.flatten [wP G pp s11, wS G ss σss]) H := by rw [e12]; exact hP
  have hD : va_D A (List.flatten [wP G pp s11, wS G ss σss]) := by rw [e12]; exact hD
  refine lv_bipush (v := 9) hx hb dX3_prepare_56 lb_9 ?_
  refine lv_istore_n (lv' := [(2, .int (9 : Int32)), (0, .ref (pp 0)), (1, .ref (ss 0))]) hx hb dX3_prepare_58 rfl hl (Nat.le_of_ble_eq_true rfl) rfl (fun ls hl => ?_)
  obtain ⟨z59, hz60, h⟩ := bd_ex h
  refine kX3_prepare_59 K F pp ss σss (fun H locs ls hP hD hS hl => ?_) F (9 : Int32) s11 _ _ _ hP hD hS (lv_sub hl [1, 2, 0] rfl) hz60
  cases h
  exact rt_v K hP hD hS dX3_prepare_175
def fbX3_waysToFill (rc : ST → Int32 → Int64 → Option (Int32)) (σpp : ST) (x2 : Int32) (x3 : Int64) : Option (Int32) :=
  (fX10_isBelow 0 x2 (11 : Int32)).bind fun r1 =>
  if r1 = 0 then
    some (0 : Int32)
  else
    if x2 < 0 ∨ 11 ≤ x2.toNatClampNeg then none else
    if (lg_cmp (x3 ||| (σpp.2.2.2 3 x2.toNatClampNeg)) (σpp.2.2.1 7)) = 0 then
      if (lg_cmp x3 (σpp.2.2.1 7)) = 0 then
        some (σpp.2.1 4 x2.toNatClampNeg)
      else
        (rc σpp (x2 + (1 : Int32)) x3).bind fun r7 =>
        if (10 : Int32) ≤ x2 then
          if (10 : Int32) ≤ x2 then
            some r7
          else
            if x2 < 0 ∨ 10 ≤ x2.toNatClampNeg then none else
            if (σpp.2.1 2 x2.toNatClampNeg) = (3 : Int32) then
              (rc σpp (x2 + (1 : Int32)) (x3 ||| (σpp.2.2.2 1 x2.toNatClampNeg))).bind fun r13 =>
              some (r7 + r13)
            else
              some r7
        else
          if x2 < 0 ∨ 10 ≤ x2.toNatClampNeg then none else
          if (σpp.2.1 2 x2.toNatClampNeg) < (2 : Int32) then
            if (10 : Int32) ≤ x2 then
              some r7
            else
              if (σpp.2.1 2 x2.toNatClampNeg) = (3 : Int32) then
                (rc σpp (x2 + (1 : Int32)) (x3 ||| (σpp.2.2.2 1 x2.toNatClampNeg))).bind fun r19 =>
                some (r7 + r19)
              else
                some r7
          else
            (rc σpp (x2 + (1 : Int32)) (x3 ||| (σpp.2.2.2 0 x2.toNatClampNeg))).bind fun r21 =>
            if (10 : Int32) ≤ x2 then
              some (r7 + r21)
            else
              if (σpp.2.1 2 x2.toNatClampNeg) = (3 : Int32) then
                (rc σpp (x2 + (1 : Int32)) (x3 ||| (σpp.2.2.2 1 x2.toNatClampNeg))).bind fun r25 =>
                some ((r7 + r21) + r25)
              else
                some (r7 + r21)
    else
      some (0 : Int32)
def fX3_waysToFill : Nat → ST → Int32 → Int64 → Option (Int32)
  | 0, _, _, _ => none
  | d + 1, σpp, x2, x3 => fbX3_waysToFill (fX3_waysToFill d) σpp x2 x3
theorem cdX3_waysToFill : CallD yX3_waysToFill 3 := by decide +kernel
set_option maxHeartbeats 4000000 in
set_option maxRecDepth 100000 in
theorem mX3_waysToFill (l : Launch) (G : GP) : ∀ (d : Nat) (pp : Nat → Nat) (σpp : ST) (x2 : Int32) (x3 : Int64) {r : Int32} (h : fX3_waysToFill d σpp x2 x3 = some r), CC l G yX3_waysToFill cX3_waysToFill 5 (some .int) (d + 3) [.ref (pp 0), .int x2, .long x3] (List.flatten [wP G pp σpp]) (List.flatten [wP G pp σpp]) (some (.int r)) := by
  intro d
  induction d with
  | zero =>
    intro pp σpp x2 x3 r h
    have h : none = some r := h
    cases h
  | succ d ihd =>
    intro pp σpp x2 x3 r h
    refine CC.of (by decide) (Nat.le_of_ble_eq_true rfl) ?_
    intro p e s m below meth c A K hP hD hS ls hl
    obtain ⟨hx, hb, hr, hml, hts, hown, hlocks, hA, hG⟩ := id K
    have hl : lv_has ls 5 [(0, .ref (pp 0)), (1, .int x2), (2, .long x3)] := hl
    have h : fbX3_waysToFill (fX3_waysToFill d) σpp x2 x3 = some r := h
    unfold fbX3_waysToFill at h
    refine lv_iload_n hx hb dX3_waysToFill_0 rfl (lv_at hl 1 rfl) ?_
    refine lv_bipush (v := 11) hx hb dX3_waysToFill_1 lb_11 ?_
    obtain ⟨r1, hc2, h⟩ := bd_ex h
    refine sl_SN K (mX10_isBelow l G 0 x2 (11 : Int32) hc2) tw_2_194 tw_1_1 tw_2_193 tw_4_25 cdX10_isBelow ⟨by simp only [RM]; omega, by simp only [RM]; omega⟩ hP hD hS [] rfl rfl rfl rfl hl.1 (Nat.le_of_ble_eq_true rfl) ⟨Nat.zero_le _, Nat.zero_le _⟩ dX3_waysToFill_3 (fun H locs hP hD hS => ?_)
    have hP : va_P G.1 vwCl (List.flatten [wP G pp σpp]) H := hP
    have hD : va_D A (List.flatten [wP G pp σpp]) := hD
    refine lv_if_eq (tgt := 25) hx hb dX3_waysToFill_6 (by decide) (fun c3 => ?_) (fun c3 => ?_)
    · have h := if_t c3 h
      refine lv_iconst (v := 0) hx hb dX3_waysToFill_25 li_0 ?_
      cases h
      exact rt_i K hP hD hS dX3_waysToFill_26
    · have h := if_f c3 h
      refine lv_lload_n hx hb dX3_waysToFill_9 rfl (lv_at hl 2 rfl) ?_
      refine lv_aload_n hx hb dX3_waysToFill_10 rfl (lv_at hl 0 rfl) ?_
      refine va_get (D := G.1) (cl := vwCl) (tys := tysG G) (ci := 3) (v := .ref (pp 4)) (C := RX3) (T := TX3) (N := 8) hx hb hts iX3 hown hG.1 hP 0 rfl rfl 3 (Nat.le_of_ble_eq_true rfl) (hts _ tw_1_235) (fun _ h9 => h9) rfl dX3_waysToFill_11 ?_
      refine lv_iload_n hx hb dX3_waysToFill_14 rfl (lv_at hl 1 rfl) ?_
      obtain ⟨ck4, h⟩ := ck h
      refine va_lald hx hb hG.1 hP 4 1 rfl rfl ck4 dX3_waysToFill_15 ?_
      refine lv_lor hx hb dX3_waysToFill_16 ?_
      refine lv_aload_n hx hb dX3_waysToFill_17 rfl (lv_at hl 0 rfl) ?_
      refine va_get (D := G.1) (cl := vwCl) (tys := tysG G) (ci := 3) (v := .long (σpp.2.2.1 7)) (C := RX3) (T := TX3) (N := 8) hx hb hts iX3 hown hG.1 hP 0 rfl rfl 7 (Nat.le_of_ble_eq_true rfl) (hts _ tw_1_239) (fun _ h9 => h9) rfl dX3_waysToFill_18 ?_
      refine W.lcmp hx hb dX3_waysToFill_21 ?_
      refine lv_if_eq (tgt := 27) hx hb dX3_waysToFill_22 (by decide) (fun c5 => ?_) (fun c5 => ?_)
      · have h := if_t c5 h
        refine lv_lload_n hx hb dX3_waysToFill_27 rfl (lv_at hl 2 rfl) ?_
        refine lv_aload_n hx hb dX3_waysToFill_28 rfl (lv_at hl 0 rfl) ?_
        refine va_get (D := G.1) (cl := vwCl) (tys := tysG G) (ci := 3) (v := .long (σpp.2.2.1 7)) (C := RX3) (T := TX3) (N := 8) hx hb hts iX3 hown hG.1 hP 0 rfl rfl 7 (Nat.le_of_ble_eq_true rfl) (hts _ tw_1_239) (fun _ h9 => h9) rfl dX3_waysToFill_29 ?_
        refine W.lcmp hx hb dX3_waysToFill_32 ?_
        refine lv_if_ne (tgt := 43) hx hb dX3_waysToFill_33 (by decide) (fun c6 => ?_) (fun c6 => ?_)
        · have h := if_f c6 h
          refine lv_aload_n hx hb dX3_waysToFill_43 rfl (lv_at hl 0 rfl) ?_
          refine lv_iload_n hx hb dX3_waysToFill_44 rfl (lv_at hl 1 rfl) ?_
          refine lv_iconst (v := 1) hx hb dX3_waysToFill_45 li_1 ?_
          refine lv_iadd hx hb dX3_waysToFill_46 ?_
          refine lv_lload_n hx hb dX3_waysToFill_47 rfl (lv_at hl 2 rfl) ?_
          obtain ⟨r7, hc8, h⟩ := bd_ex h
          refine sl_S K (ihd pp σpp (x2 + (1 : Int32)) x3 hc8) tw_4_24 tw_1_10 tw_4_23 tw_4_22 cdX3_waysToFill ⟨by simp only [RM]; omega, by simp only [RM]; omega⟩ hP hD hS [0] rfl rfl rfl rfl hl.1 (Nat.le_of_ble_eq_true rfl) ⟨Nat.zero_le _, Nat.zero_le _⟩ dX3_waysToFill_48 (fun H locs hP hD hS => ?_)
          have hP : va_P G.1 vwCl (List.flatten [wP G pp σpp]) H := hP
          have hD : va_D A (List.flatten [wP G pp σpp]) := hD
          refine lv_istore (lv' := [(4, .int r7), (0, .ref (pp 0)), (1, .int x2), (2, .long x3)]) hx hb dX3_waysToFill_51 hl (Nat.le_of_ble_eq_true rfl) rfl (fun ls hl => ?_)
          refine lv_iload_n hx hb dX3_waysToFill_53 rfl (lv_at hl 2 rfl) ?_
          refine lv_bipush (v := 10) hx hb dX3_waysToFill_54 lb_10 ?_
          refine lv_icmp_ge (tgt := 89) hx hb dX3_waysToFill_56 (by decide) (fun c9 => ?_) (fun c9 => ?_)
          · have h := if_t c9 h
            refine lv_iload_n hx hb dX3_waysToFill_89 rfl (lv_at hl 2 rfl) ?_
            refine lv_bipush (v := 10) hx hb dX3_waysToFill_90 lb_10 ?_
            refine lv_icmp_ge (tgt := 125) hx hb dX3_waysToFill_92 (by decide) (fun c10 => ?_) (fun c10 => ?_)
            · have h := if_t c10 h
              refine lv_iload hx hb dX3_waysToFill_125 (lv_at hl 0 rfl) ?_
              cases h
              exact rt_i K hP hD hS dX3_waysToFill_127
            · have h := if_f c10 h
              refine lv_aload_n hx hb dX3_waysToFill_95 rfl (lv_at hl 1 rfl) ?_
              refine va_get (D := G.1) (cl := vwCl) (tys := tysG G) (ci := 3) (v := .ref (pp 3)) (C := RX3) (T := TX3) (N := 8) hx hb hts iX3 hown hG.1 hP 0 rfl rfl 2 (Nat.le_of_ble_eq_true rfl) (hts _ tw_1_234) (fun _ h9 => h9) rfl dX3_waysToFill_96 ?_
              refine lv_iload_n hx hb dX3_waysToFill_99 rfl (lv_at hl 2 rfl) ?_
              obtain ⟨ck11, h⟩ := ck h
              refine va_iald hx hb hG.1 hP 3 0 rfl rfl ck11 dX3_waysToFill_100 ?_
              refine lv_iconst (v := 3) hx hb dX3_waysToFill_101 li_3 ?_
              refine lv_icmp_ne (tgt := 125) hx hb dX3_waysToFill_102 (by decide) (fun c12 => ?_) (fun c12 => ?_)
              · have h := if_f c12 h
                refine lv_iload hx hb dX3_waysToFill_125 (lv_at hl 0 rfl) ?_
                cases h
                exact rt_i K hP hD hS dX3_waysToFill_127
              · have h := if_t c12 h
                refine lv_iload hx hb dX3_waysToFill_105 (lv_at hl 0 rfl) ?_
                refine lv_aload_n hx hb dX3_waysToFill_107 rfl (lv_at hl 1 rfl) ?_
                refine lv_iload_n hx hb dX3_waysToFill_108 rfl (lv_at hl 2 rfl) ?_
                refine lv_iconst (v := 1) hx hb dX3_waysToFill_109 li_1 ?_
                refine lv_iadd hx hb dX3_waysToFill_110 ?_
                refine lv_lload_n hx hb dX3_waysToFill_111 rfl (lv_at hl 3 rfl) ?_
                refine lv_aload_n hx hb dX3_waysToFill_112 rfl (lv_at hl 1 rfl) ?_
                refine va_get (D := G.1) (cl := vwCl) (tys := tysG G) (ci := 3) (v := .ref (pp 2)) (C := RX3) (T := TX3) (N := 8) hx hb hts iX3 hown hG.1 hP 0 rfl rfl 1 (Nat.le_of_ble_eq_true rfl) (hts _ tw_1_233) (fun _ h9 => h9) rfl dX3_waysToFill_113 ?_
                refine lv_iload_n hx hb dX3_waysToFill_116 rfl (lv_at hl 2 rfl) ?_
                refine va_lald hx hb hG.1 hP 2 1 rfl rfl ck11 dX3_waysToFill_117 ?_
                refine lv_lor hx hb dX3_waysToFill_118 ?_
                obtain ⟨r13, hc14, h⟩ := bd_ex h
                refine sl_S K (ihd pp σpp (x2 + (1 : Int32)) (x3 ||| (σpp.2.2.2 1 x2.toNatClampNeg)) hc14) tw_4_24 tw_1_10 tw_4_23 tw_4_22 cdX3_waysToFill ⟨by simp only [RM]; omega, by simp only [RM]; omega⟩ hP hD hS [0] rfl rfl rfl rfl hl.1 (Nat.le_of_ble_eq_true rfl) ⟨Nat.zero_le _, Nat.zero_le _⟩ dX3_waysToFill_119 (fun H locs hP hD hS => ?_)
                have hP : va_P G.1 vwCl (List.flatten [wP G pp σpp]) H := hP
                have hD : va_D A (List.flatten [wP G pp σpp]) := hD
                refine lv_iadd hx hb dX3_waysToFill_122 ?_
                refine lv_istore (lv' := [(4, .int (r7 + r13)), (0, .ref (pp 0)), (1, .int x2), (2, .long x3)]) hx hb dX3_waysToFill_123 hl (Nat.le_of_ble_eq_true rfl) rfl (fun ls hl => ?_)
                refine lv_iload hx hb dX3_waysToFill_125 (lv_at hl 0 rfl) ?_
                cases h
                exact rt_i K hP hD hS dX3_waysToFill_127
          · have h := if_f c9 h
            refine lv_aload_n hx hb dX3_waysToFill_59 rfl (lv_at hl 1 rfl) ?_
            refine va_get (D := G.1) (cl := vwCl) (tys := tysG G) (ci := 3) (v := .ref (pp 3)) (C := RX3) (T := TX3) (N := 8) hx hb hts iX3 hown hG.1 hP 0 rfl rfl 2 (Nat.le_of_ble_eq_true rfl) (hts _ tw_1_234) (fun _ h9 => h9) rfl dX3_waysToFill_60 ?_
            refine lv_iload_n hx hb dX3_waysToFill_63 rfl (lv_at hl 2 rfl) ?_
            obtain ⟨ck15, h⟩ := ck h
            refine va_iald hx hb hG.1 hP 3 0 rfl rfl ck15 dX3_waysToFill_64 ?_
            refine lv_iconst (v := 2) hx hb dX3_waysToFill_65 li_2 ?_
            refine lv_icmp_lt (tgt := 89) hx hb dX3_waysToFill_66 (by decide) (fun c16 => ?_) (fun c16 => ?_)
            · have h := if_t c16 h
              refine lv_iload_n hx hb dX3_waysToFill_89 rfl (lv_at hl 2 rfl) ?_
              refine lv_bipush (v := 10) hx hb dX3_waysToFill_90 lb_10 ?_
              refine lv_icmp_ge (tgt := 125) hx hb dX3_waysToFill_92 (by decide) (fun c17 => ?_) (fun c17 => ?_)
              · have h := if_t c17 h
                refine lv_iload hx hb dX3_waysToFill_125 (lv_at hl 0 rfl) ?_
                cases h
                exact rt_i K hP hD hS dX3_waysToFill_127
              · have h := if_f c17 h
                refine lv_aload_n hx hb dX3_waysToFill_95 rfl (lv_at hl 1 rfl) ?_
                refine va_get (D := G.1) (cl := vwCl) (tys := tysG G) (ci := 3) (v := .ref (pp 3)) (C := RX3) (T := TX3) (N := 8) hx hb hts iX3 hown hG.1 hP 0 rfl rfl 2 (Nat.le_of_ble_eq_true rfl) (hts _ tw_1_234) (fun _ h9 => h9) rfl dX3_waysToFill_96 ?_
                refine lv_iload_n hx hb dX3_waysToFill_99 rfl (lv_at hl 2 rfl) ?_
                refine va_iald hx hb hG.1 hP 3 0 rfl rfl ck15 dX3_waysToFill_100 ?_
                refine lv_iconst (v := 3) hx hb dX3_waysToFill_101 li_3 ?_
                refine lv_icmp_ne (tgt := 125) hx hb dX3_waysToFill_102 (by decide) (fun c18 => ?_) (fun c18 => ?_)
                · have h := if_f c18 h
                  refine lv_iload hx hb dX3_waysToFill_125 (lv_at hl 0 rfl) ?_
                  cases h
                  exact rt_i K hP hD hS dX3_waysToFill_127
                · have h := if_t c18 h
                  refine lv_iload hx hb dX3_waysToFill_105 (lv_at hl 0 rfl) ?_
                  refine lv_aload_n hx hb dX3_waysToFill_107 rfl (lv_at hl 1 rfl) ?_
                  refine lv_iload_n hx hb dX3_waysToFill_108 rfl (lv_at hl 2 rfl) ?_
                  refine lv_iconst (v := 1) hx hb dX3_waysToFill_109 li_1 ?_
                  refine lv_iadd hx hb dX3_waysToFill_110 ?_
                  refine lv_lload_n hx hb dX3_waysToFill_111 rfl (lv_at hl 3 rfl) ?_
                  refine lv_aload_n hx hb dX3_waysToFill_112 rfl (lv_at hl 1 rfl) ?_
                  refine va_get (D := G.1) (cl := vwCl) (tys := tysG G) (ci := 3) (v := .ref (pp 2)) (C := RX3) (T := TX3) (N := 8) hx hb hts iX3 hown hG.1 hP 0 rfl rfl 1 (Nat.le_of_ble_eq_true rfl) (hts _ tw_1_233) (fun _ h9 => h9) rfl dX3_waysToFill_113 ?_
                  refine lv_iload_n hx hb dX3_waysToFill_116 rfl (lv_at hl 2 rfl) ?_
                  refine va_lald hx hb hG.1 hP 2 1 rfl rfl ck15 dX3_waysToFill_117 ?_
                  refine lv_lor hx hb dX3_waysToFill_118 ?_
                  obtain ⟨r19, hc20, h⟩ := bd_ex h
                  refine sl_S K (ihd pp σpp (x2 + (1 : Int32)) (x3 ||| (σpp.2.2.2 1 x2.toNatClampNeg)) hc20) tw_4_24 tw_1_10 tw_4_23 tw_4_22 cdX3_waysToFill ⟨by simp only [RM]; omega, by simp only [RM]; omega⟩ hP hD hS [0] rfl rfl rfl rfl hl.1 (Nat.le_of_ble_eq_true rfl) ⟨Nat.zero_le _, Nat.zero_le _⟩ dX3_waysToFill_119 (fun H locs hP hD hS => ?_)
                  have hP : va_P G.1 vwCl (List.flatten [wP G pp σpp]) H := hP
                  have hD : va_D A (List.flatten [wP G pp σpp]) := hD
                  refine lv_iadd hx hb dX3_waysToFill_122 ?_
                  refine lv_istore (lv' := [(4, .int (r7 + r19)), (0, .ref (pp 0)), (1, .int x2), (2, .long x3)]) hx hb dX3_waysToFill_123 hl (Nat.le_of_ble_eq_true rfl) rfl (fun ls hl => ?_)
                  refine lv_iload hx hb dX3_waysToFill_125 (lv_at hl 0 rfl) ?_
                  cases h
                  exact rt_i K hP hD hS dX3_waysToFill_127
            · have h := if_f c16 h
              refine lv_iload hx hb dX3_waysToFill_69 (lv_at hl 0 rfl) ?_
              refine lv_aload_n hx hb dX3_waysToFill_71 rfl (lv_at hl 1 rfl) ?_
              refine lv_iload_n hx hb dX3_waysToFill_72 rfl (lv_at hl 2 rfl) ?_
              refine lv_iconst (v := 1) hx hb dX3_waysToFill_73 li_1 ?_
              refine lv_iadd hx hb dX3_waysToFill_74 ?_
              refine lv_lload_n hx hb dX3_waysToFill_75 rfl (lv_at hl 3 rfl) ?_
              refine lv_aload_n hx hb dX3_waysToFill_76 rfl (lv_at hl 1 rfl) ?_
              refine va_get (D := G.1) (cl := vwCl) (tys := tysG G) (ci := 3) (v := .ref (pp 1)) (C := RX3) (T := TX3) (N := 8) hx hb hts iX3 hown hG.1 hP 0 rfl rfl 0 (Nat.le_of_ble_eq_true rfl) (hts _ tw_1_232) (fun _ h9 => h9) rfl dX3_waysToFill_77 ?_
              refine lv_iload_n hx hb dX3_waysToFill_80 rfl (lv_at hl 2 rfl) ?_
              refine va_lald hx hb hG.1 hP 1 1 rfl rfl ck15 dX3_waysToFill_81 ?_
              refine lv_lor hx hb dX3_waysToFill_82 ?_
              obtain ⟨r21, hc22, h⟩ := bd_ex h
              refine sl_S K (ihd pp σpp (x2 + (1 : Int32)) (x3 ||| (σpp.2.2.2 0 x2.toNatClampNeg)) hc22) tw_4_24 tw_1_10 tw_4_23 tw_4_22 cdX3_waysToFill ⟨by simp only [RM]; omega, by simp only [RM]; omega⟩ hP hD hS [0] rfl rfl rfl rfl hl.1 (Nat.le_of_ble_eq_true rfl) ⟨Nat.zero_le _, Nat.zero_le _⟩ dX3_waysToFill_83 (fun H locs hP hD hS => ?_)
              have hP : va_P G.1 vwCl (List.flatten [wP G pp σpp]) H := hP
              have hD : va_D A (List.flatten [wP G pp σpp]) := hD
              refine lv_iadd hx hb dX3_waysToFill_86 ?_
              refine lv_istore (lv' := [(4, .int (r7 + r21)), (0, .ref (pp 0)), (1, .int x2), (2, .long x3)]) hx hb dX3_waysToFill_87 hl (Nat.le_of_ble_eq_true rfl) rfl (fun ls hl => ?_)
              refine lv_iload_n hx hb dX3_waysToFill_89 rfl (lv_at hl 2 rfl) ?_
              refine lv_bipush (v := 10) hx hb dX3_waysToFill_90 lb_10 ?_
              refine lv_icmp_ge (tgt := 125) hx hb dX3_waysToFill_92 (by decide) (fun c23 => ?_) (fun c23 => ?_)
              · have h := if_t c23 h
                refine lv_iload hx hb dX3_waysToFill_125 (lv_at hl 0 rfl) ?_
                cases h
                exact rt_i K hP hD hS dX3_waysToFill_127
              · have h := if_f c23 h
                refine lv_aload_n hx hb dX3_waysToFill_95 rfl (lv_at hl 1 rfl) ?_
                refine va_get (D := G.1) (cl := vwCl) (tys := tysG G) (ci := 3) (v := .ref (pp 3)) (C := RX3) (T := TX3) (N := 8) hx hb hts iX3 hown hG.1 hP 0 rfl rfl 2 (Nat.le_of_ble_eq_true rfl) (hts _ tw_1_234) (fun _ h9 => h9) rfl dX3_waysToFill_96 ?_
                refine lv_iload_n hx hb dX3_waysToFill_99 rfl (lv_at hl 2 rfl) ?_
                refine va_iald hx hb hG.1 hP 3 0 rfl rfl ck15 dX3_waysToFill_100 ?_
                refine lv_iconst (v := 3) hx hb dX3_waysToFill_101 li_3 ?_
                refine lv_icmp_ne (tgt := 125) hx hb dX3_waysToFill_102 (by decide) (fun c24 => ?_) (fun c24 => ?_)
                · have h := if_f c24 h
                  refine lv_iload hx hb dX3_waysToFill_125 (lv_at hl 0 rfl) ?_
                  cases h
                  exact rt_i K hP hD hS dX3_waysToFill_127
                · have h := if_t c24 h
                  refine lv_iload hx hb dX3_waysToFill_105 (lv_at hl 0 rfl) ?_
                  refine lv_aload_n hx hb dX3_waysToFill_107 rfl (lv_at hl 1 rfl) ?_
                  refine lv_iload_n hx hb dX3_waysToFill_108 rfl (lv_at hl 2 rfl) ?_
                  refine lv_iconst (v := 1) hx hb dX3_waysToFill_109 li_1 ?_
                  refine lv_iadd hx hb dX3_waysToFill_110 ?_
                  refine lv_lload_n hx hb dX3_waysToFill_111 rfl (lv_at hl 3 rfl) ?_
                  refine lv_aload_n hx hb dX3_waysToFill_112 rfl (lv_at hl 1 rfl) ?_
                  refine va_get (D := G.1) (cl := vwCl) (tys := tysG G) (ci := 3) (v := .ref (pp 2)) (C := RX3) (T := TX3) (N := 8) hx hb hts iX3 hown hG.1 hP 0 rfl rfl 1 (Nat.le_of_ble_eq_true rfl) (hts _ tw_1_233) (fun _ h9 => h9) rfl dX3_waysToFill_113 ?_
                  refine lv_iload_n hx hb dX3_waysToFill_116 rfl (lv_at hl 2 rfl) ?_
                  refine va_lald hx hb hG.1 hP 2 1 rfl rfl ck15 dX3_waysToFill_117 ?_
                  refine lv_lor hx hb dX3_waysToFill_118 ?_
                  obtain ⟨r25, hc26, h⟩ := bd_ex h
                  refine sl_S K (ihd pp σpp (x2 + (1 : Int32)) (x3 ||| (σpp.2.2.2 1 x2.toNatClampNeg)) hc26) tw_4_24 tw_1_10 tw_4_23 tw_4_22 cdX3_waysToFill ⟨by simp only [RM]; omega, by simp only [RM]; omega⟩ hP hD hS [0] rfl rfl rfl rfl hl.1 (Nat.le_of_ble_eq_true rfl) ⟨Nat.zero_le _, Nat.zero_le _⟩ dX3_waysToFill_119 (fun H locs hP hD hS => ?_)
                  have hP : va_P G.1 vwCl (List.flatten [wP G pp σpp]) H := hP
                  have hD : va_D A (List.flatten [wP G pp σpp]) := hD
                  refine lv_iadd hx hb dX3_waysToFill_122 ?_
                  refine lv_istore (lv' := [(4, .int ((r7 + r21) + r25)), (0, .ref (pp 0)), (1, .int x2), (2, .long x3)]) hx hb dX3_waysToFill_123 hl (Nat.le_of_ble_eq_true rfl) rfl (fun ls hl => ?_)
                  refine lv_iload hx hb dX3_waysToFill_125 (lv_at hl 0 rfl) ?_
                  cases h
                  exact rt_i K hP hD hS dX3_waysToFill_127
        · have h := if_t c6 h
          refine lv_aload_n hx hb dX3_waysToFill_36 rfl (lv_at hl 0 rfl) ?_
          refine va_get (D := G.1) (cl := vwCl) (tys := tysG G) (ci := 3) (v := .ref (pp 5)) (C := RX3) (T := TX3) (N := 8) hx hb hts iX3 hown hG.1 hP 0 rfl rfl 4 (Nat.le_of_ble_eq_true rfl) (hts _ tw_1_236) (fun _ h9 => h9) rfl dX3_waysToFill_37 ?_
          refine lv_iload_n hx hb dX3_waysToFill_40 rfl (lv_at hl 1 rfl) ?_
          refine va_iald hx hb hG.1 hP 5 0 rfl rfl ck4 dX3_waysToFill_41 ?_
          cases h
          exact rt_i K hP hD hS dX3_waysToFill_42
      · have h := if_f c5 h
        refine lv_iconst (v := 0) hx hb dX3_waysToFill_25 li_0 ?_
        cases h
        exact rt_i K hP hD hS dX3_waysToFill_26
def fX3_number (F : Nat) (σpp : ST)  : Option (Int32) :=
  (fX3_waysToFill 13 σpp (0 : Int32) (0 : Int64)).bind fun r1 =>
  some r1
theorem cdX3_number : CallD yX3_number 0 := by decide +kernel
set_option maxHeartbeats 4000000 in
set_option maxRecDepth 100000 in
theorem mX3_number (l : Launch) (G : GP) (F : Nat) (pp : Nat → Nat) (σpp : ST)  {r : Int32} (h : fX3_number F σpp  = some r) : CC l G yX3_number cX3_number 1 (some .int) 17 [.ref (pp 0)] (List.flatten [wP G pp σpp]) (List.flatten [wP G pp σpp]) (some (.int r)) := by
  refine CC.of (by decide) (Nat.le_of_ble_eq_true rfl) ?_
  intro p e s m below meth c A K hP hD hS ls hl
  obtain ⟨hx, hb, hr, hml, hts, hown, hlocks, hA, hG⟩ := id K
  have hl : lv_has ls 1 [(0, .ref (pp 0))] := hl
  unfold fX3_number at h
  refine lv_aload_n hx hb dX3_number_0 rfl (lv_at hl 0 rfl) ?_
  refine lv_iconst (v := 0) hx hb dX3_number_1 li_0 ?_
  refine lv_lconst (v := 0) hx hb dX3_number_2 ll_0 ?_
  obtain ⟨r1, hc2, h⟩ := bd_ex h
  refine sl_S K (mX3_waysToFill l G 13 pp σpp (0 : Int32) (0 : Int64) hc2) tw_4_24 tw_1_10 tw_4_23 tw_4_22 cdX3_waysToFill ⟨Nat.le_of_ble_eq_true rfl, Nat.le_of_ble_eq_true rfl⟩ hP hD hS [0] rfl rfl rfl rfl hl.1 (Nat.le_of_ble_eq_true rfl) ⟨Nat.zero_le _, Nat.zero_le _⟩ dX3_number_3 (fun H locs hP hD hS => ?_)
  have hP : va_P G.1 vwCl (List.flatten [wP G pp σpp]) H := hP
  have hD : va_D A (List.flatten [wP G pp σpp]) := hD
  cases h
  exact rt_i K hP hD hS dX3_number_6
def gbX3_mostHeads_4 (F : Nat) (σpp : ST) (rc : Int32 → Int32 → Option (Int32 × Int32)) (v1 : Int32) (v2 : Int32) : Option (Int32 × Int32) :=
  if (10 : Int32) ≤ v2 then
    some (v1, v2)
  else
    if v2 < 0 ∨ 10 ≤ v2.toNatClampNeg then none else
    if (σpp.2.1 2 v2.toNatClampNeg) = (1 : Int32) then
      rc (v1 + (0 : Int32)) (v2 + 1)
    else
      rc (v1 + (1 : Int32)) (v2 + 1)
def gX3_mostHeads_4 (F : Nat) (σpp : ST) : Nat → Int32 → Int32 → Option (Int32 × Int32)
  | 0, _, _ => none
  | n + 1, v1, v2 => gbX3_mostHeads_4 F σpp (gX3_mostHeads_4 F σpp n) v1 v2
set_option maxHeartbeats 4000000 in
set_option maxRecDepth 100000 in
theorem kX3_mostHeads_4 {p : Program} {l : Launch} {e : Env} {s : State} {m : MethodId} {args : Array Value} {below : List Frame} {meth : Method} {c : Code} {A : Nat → Prop} {Q : State → Prop} {G : GP} (K : Cx p s m meth c G cX3_mostHeads RX3 3 (some .int) args A) (F : Nat) (pp : Nat → Nat) (σpp : ST) {z : Int32 × Int32} (kk : ∀ (H : Heap) (locs : List Loc) (ls : Array Slot), va_P G.1 vwCl (List.flatten [wP G pp σpp]) H → va_D A (List.flatten [wP G pp σpp]) → va_S A s.heap H locs → lv_has ls 3 [(0, .ref (pp 0)), (1, .int z.1), (2, .int z.2)] → W p l e (RM 1) s m args below meth c H locs 0 0 Q (F0 m 34 ls [])) :
    ∀ (n : Nat) (v1 : Int32) (v2 : Int32) (H : Heap) (locs : List Loc) (ls : Array Slot), va_P G.1 vwCl (List.flatten [wP G pp σpp]) H → va_D A (List.flatten [wP G pp σpp]) → va_S A s.heap H locs → lv_has ls 3 [(0, .ref (pp 0)), (1, .int v1), (2, .int v2)] → gX3_mostHeads_4 F σpp n v1 v2 = some z → W p l e (RM 1) s m args below meth c H locs 0 0 Q (F0 m 4 ls []) := by
  obtain ⟨hx, hb, hr, hml, hts, hown, hlocks, hA, hG⟩ := id K
  intro n
  induction n with
  | zero =>
    intro v1 v2 H locs ls hP hD hS hl h
    have h : none = some z := h
    cases h
  | succ n ih =>
    intro v1 v2 H locs ls hP hD hS hl h
    have h : gbX3_mostHeads_4 F σpp (gX3_mostHeads_4 F σpp n) v1 v2 = some z := h
    unfold gbX3_mostHeads_4 at h
    refine lv_iload_n hx hb dX3_mostHeads_4 rfl (lv_at hl 2 rfl) ?_
    refine lv_bipush (v := 10) hx hb dX3_mostHeads_5 lb_10 ?_
    refine lv_icmp_ge (tgt := 34) hx hb dX3_mostHeads_7 (by decide) (fun c1 => ?_) (fun c1 => ?_)
    · have h := if_t c1 h
      cases h
      exact kk _ _ _ hP hD hS (lv_sub hl [0, 1, 2] rfl)
    · have h := if_f c1 h
      refine lv_iload_n hx hb dX3_mostHeads_10 rfl (lv_at hl 1 rfl) ?_
      refine lv_aload_n hx hb dX3_mostHeads_11 rfl (lv_at hl 0 rfl) ?_
      refine va_get (D := G.1) (cl := vwCl) (tys := tysG G) (ci := 3) (v := .ref (pp 3)) (C := RX3) (T := TX3) (N := 8) hx hb hts iX3 hown hG.1 hP 0 rfl rfl 2 (Nat.le_of_ble_eq_true rfl) (hts _ tw_1_234) (fun _ h9 => h9) rfl dX3_mostHeads_12 ?_
      refine lv_iload_n hx hb dX3_mostHeads_15 rfl (lv_at hl 2 rfl) ?_
      obtain ⟨ck2, h⟩ := ck h
      refine va_iald hx hb hG.1 hP 3 0 rfl rfl ck2 dX3_mostHeads_16 ?_
      refine lv_iconst (v := 1) hx hb dX3_mostHeads_17 li_1 ?_
      refine lv_icmp_ne (tgt := 25) hx hb dX3_mostHeads_18 (by decide) (fun c3 => ?_) (fun c3 => ?_)
      · have h := if_f c3 h
        refine lv_iconst (v := 1) hx hb dX3_mostHeads_25 li_1 ?_
        refine lv_iadd hx hb dX3_mostHeads_26 ?_
        refine lv_istore_n (lv' := [(1, .int (v1 + (1 : Int32))), (0, .ref (pp 0)), (2, .int v2)]) hx hb dX3_mostHeads_27 rfl hl (Nat.le_of_ble_eq_true rfl) rfl (fun ls hl => ?_)
        refine lv_iinc (v := v2 + 1) (lv' := [(2, .int (v2 + 1)), (1, .int (v1 + (1 : Int32))), (0, .ref (pp 0))]) hx hb dX3_mostHeads_28 hl (k := 2) rfl (by rw [li_1]) (Nat.le_of_ble_eq_true rfl) rfl (fun ls hl => ?_)
        refine lv_goto (tgt := 4) hx hb dX3_mostHeads_31 (by decide) ?_
        exact ih (v1 + (1 : Int32)) (v2 + 1) _ _ _ hP hD hS (lv_sub hl [2, 1, 0] rfl) h
      · have h := if_t c3 h
        refine lv_iconst (v := 0) hx hb dX3_mostHeads_21 li_0 ?_
        refine lv_goto (tgt := 26) hx hb dX3_mostHeads_22 (by decide) ?_
        refine lv_iadd hx hb dX3_mostHeads_26 ?_
        refine lv_istore_n (lv' := [(1, .int (v1 + (0 : Int32))), (0, .ref (pp 0)), (2, .int v2)]) hx hb dX3_mostHeads_27 rfl hl (Nat.le_of_ble_eq_true rfl) rfl (fun ls hl => ?_)
        refine lv_iinc (v := v2 + 1) (lv' := [(2, .int (v2 + 1)), (1, .int (v1 + (0 : Int32))), (0, .ref (pp 0))]) hx hb dX3_mostHeads_28 hl (k := 2) rfl (by rw [li_1]) (Nat.le_of_ble_eq_true rfl) rfl (fun ls hl => ?_)
        refine lv_goto (tgt := 4) hx hb dX3_mostHeads_31 (by decide) ?_
        exact ih (v1 + (0 : Int32)) (v2 + 1) _ _ _ hP hD hS (lv_sub hl [2, 1, 0] rfl) h
def fX3_mostHeads (F : Nat) (σpp : ST)  : Option (Int32) :=
  (gX3_mostHeads_4 F σpp F (0 : Int32) (0 : Int32)).bind fun z4 =>
    some z4.1
theorem cdX3_mostHeads : CallD yX3_mostHeads 0 := by decide +kernel
set_option maxHeartbeats 4000000 in
set_option maxRecDepth 100000 in
theorem mX3_mostHeads (l : Launch) (G : GP) (F : Nat) (pp : Nat → Nat) (σpp : ST)  {r : Int32} (h : fX3_mostHeads F σpp  = some r) : CC l G yX3_mostHeads cX3_mostHeads 3 (some .int) 1 [.ref (pp 0)] (List.flatten [wP G pp σpp]) (List.flatten [wP G pp σpp]) (some (.int r)) := by
  refine CC.of (by decide) (Nat.le_of_ble_eq_true rfl) ?_
  intro p e s m below meth c A K hP hD hS ls hl
  obtain ⟨hx, hb, hr, hml, hts, hown, hlocks, hA, hG⟩ := id K
  have hl : lv_has ls 3 [(0, .ref (pp 0))] := hl
  unfold fX3_mostHeads at h
  refine lv_iconst (v := 0) hx hb dX3_mostHeads_0 li_0 ?_
  refine lv_istore_n (lv' := [(1, .int (0 : Int32)), (0, .ref (pp 0))]) hx hb dX3_mostHeads_1 rfl hl (Nat.le_of_ble_eq_true rfl) rfl (fun ls hl => ?_)
  refine lv_iconst (v := 0) hx hb dX3_mostHeads_2 li_0 ?_
  refine lv_istore_n (lv' := [(2, .int (0 : Int32)), (1, .int (0 : Int32)), (0, .ref (pp 0))]) hx hb dX3_mostHeads_3 rfl hl (Nat.le_of_ble_eq_true rfl) rfl (fun ls hl => ?_)
  obtain ⟨z4, hz5, h⟩ := bd_ex h
  refine kX3_mostHeads_4 K F pp σpp (fun H locs ls hP hD hS hl => ?_) F (0 : Int32) (0 : Int32) _ _ _ hP hD hS (lv_sub hl [2, 1, 0] rfl) hz5
  refine lv_iload_n hx hb dX3_mostHeads_34 rfl (lv_at hl 1 rfl) ?_
  cases h
  exact rt_i K hP hD hS dX3_mostHeads_35
def fbX3_fewestFrom (rc : ST → Int32 → Int64 → Option (Int32)) (σpp : ST) (x2 : Int32) (x3 : Int64) : Option (Int32) :=
  if (lg_cmp x3 (σpp.2.2.1 7)) = 0 then
    some (0 : Int32)
  else
    (fX10_isBelow 0 x2 (10 : Int32)).bind fun r2 =>
    if r2 = 0 then
      some (11 : Int32)
    else
      if x2 < 0 ∨ 11 ≤ x2.toNatClampNeg then none else
      if (lg_cmp (x3 ||| (σpp.2.2.2 3 x2.toNatClampNeg)) (σpp.2.2.1 7)) = 0 then
        (rc σpp (x2 + (1 : Int32)) x3).bind fun r7 =>
        (fX3_tallest 0 σpp x2).bind fun r9 =>
        (rc σpp (x2 + (1 : Int32)) (x3 ||| r9)).bind fun r11 =>
        some (if ((1 : Int32) + r11) < r7 then ((1 : Int32) + r11) else r7)
      else
        some (11 : Int32)
def fX3_fewestFrom : Nat → ST → Int32 → Int64 → Option (Int32)
  | 0, _, _, _ => none
  | d + 1, σpp, x2, x3 => fbX3_fewestFrom (fX3_fewestFrom d) σpp x2 x3
theorem cdX3_fewestFrom : CallD yX3_fewestFrom 3 := by decide +kernel
set_option maxHeartbeats 4000000 in
set_option maxRecDepth 100000 in
theorem mX3_fewestFrom (l : Launch) (G : GP) : ∀ (d : Nat) (pp : Nat → Nat) (σpp : ST) (x2 : Int32) (x3 : Int64) {r : Int32} (h : fX3_fewestFrom d σpp x2 x3 = some r), CC l G yX3_fewestFrom cX3_fewestFrom 5 (some .int) (d + 3) [.ref (pp 0), .int x2, .long x3] (List.flatten [wP G pp σpp]) (List.flatten [wP G pp σpp]) (some (.int r)) := by
  intro d
  induction d with
  | zero =>
    intro pp σpp x2 x3 r h
    have h : none = some r := h
    cases h
  | succ d ihd =>
    intro pp σpp x2 x3 r h
    refine CC.of (by decide) (Nat.le_of_ble_eq_true rfl) ?_
    intro p e s m below meth c A K hP hD hS ls hl
    obtain ⟨hx, hb, hr, hml, hts, hown, hlocks, hA, hG⟩ := id K
    have hl : lv_has ls 5 [(0, .ref (pp 0)), (1, .int x2), (2, .long x3)] := hl
    have h : fbX3_fewestFrom (fX3_fewestFrom d) σpp x2 x3 = some r := h
    unfold fbX3_fewestFrom at h
    refine lv_lload_n hx hb dX3_fewestFrom_0 rfl (lv_at hl 2 rfl) ?_
    refine lv_aload_n hx hb dX3_fewestFrom_1 rfl (lv_at hl 0 rfl) ?_
    refine va_get (D := G.1) (cl := vwCl) (tys := tysG G) (ci := 3) (v := .long (σpp.2.2.1 7)) (C := RX3) (T := TX3) (N := 8) hx hb hts iX3 hown hG.1 hP 0 rfl rfl 7 (Nat.le_of_ble_eq_true rfl) (hts _ tw_1_239) (fun _ h9 => h9) rfl dX3_fewestFrom_2 ?_
    refine W.lcmp hx hb dX3_fewestFrom_5 ?_
    refine lv_if_ne (tgt := 11) hx hb dX3_fewestFrom_6 (by decide) (fun c1 => ?_) (fun c1 => ?_)
    · have h := if_f c1 h
      refine lv_iload_n hx hb dX3_fewestFrom_11 rfl (lv_at hl 1 rfl) ?_
      refine lv_bipush (v := 10) hx hb dX3_fewestFrom_12 lb_10 ?_
      obtain ⟨r2, hc3, h⟩ := bd_ex h
      refine sl_SN K (mX10_isBelow l G 0 x2 (10 : Int32) hc3) tw_2_194 tw_1_1 tw_2_193 tw_4_25 cdX10_isBelow ⟨by simp only [RM]; omega, by simp only [RM]; omega⟩ hP hD hS [] rfl rfl rfl rfl hl.1 (Nat.le_of_ble_eq_true rfl) ⟨Nat.zero_le _, Nat.zero_le _⟩ dX3_fewestFrom_14 (fun H locs hP hD hS => ?_)
      have hP : va_P G.1 vwCl (List.flatten [wP G pp σpp]) H := hP
      have hD : va_D A (List.flatten [wP G pp σpp]) := hD
      refine lv_if_eq (tgt := 36) hx hb dX3_fewestFrom_17 (by decide) (fun c4 => ?_) (fun c4 => ?_)
      · have h := if_t c4 h
        refine lv_bipush (v := 11) hx hb dX3_fewestFrom_36 lb_11 ?_
        cases h
        exact rt_i K hP hD hS dX3_fewestFrom_38
      · have h := if_f c4 h
        refine lv_lload_n hx hb dX3_fewestFrom_20 rfl (lv_at hl 2 rfl) ?_
        refine lv_aload_n hx hb dX3_fewestFrom_21 rfl (lv_at hl 0 rfl) ?_
        refine va_get (D := G.1) (cl := vwCl) (tys := tysG G) (ci := 3) (v := .ref (pp 4)) (C := RX3) (T := TX3) (N := 8) hx hb hts iX3 hown hG.1 hP 0 rfl rfl 3 (Nat.le_of_ble_eq_true rfl) (hts _ tw_1_235) (fun _ h9 => h9) rfl dX3_fewestFrom_22 ?_
        refine lv_iload_n hx hb dX3_fewestFrom_25 rfl (lv_at hl 1 rfl) ?_
        obtain ⟨ck5, h⟩ := ck h
        refine va_lald hx hb hG.1 hP 4 1 rfl rfl ck5 dX3_fewestFrom_26 ?_
        refine lv_lor hx hb dX3_fewestFrom_27 ?_
        refine lv_aload_n hx hb dX3_fewestFrom_28 rfl (lv_at hl 0 rfl) ?_
        refine va_get (D := G.1) (cl := vwCl) (tys := tysG G) (ci := 3) (v := .long (σpp.2.2.1 7)) (C := RX3) (T := TX3) (N := 8) hx hb hts iX3 hown hG.1 hP 0 rfl rfl 7 (Nat.le_of_ble_eq_true rfl) (hts _ tw_1_239) (fun _ h9 => h9) rfl dX3_fewestFrom_29 ?_
        refine W.lcmp hx hb dX3_fewestFrom_32 ?_
        refine lv_if_eq (tgt := 39) hx hb dX3_fewestFrom_33 (by decide) (fun c6 => ?_) (fun c6 => ?_)
        · have h := if_t c6 h
          refine lv_aload_n hx hb dX3_fewestFrom_39 rfl (lv_at hl 0 rfl) ?_
          refine lv_iload_n hx hb dX3_fewestFrom_40 rfl (lv_at hl 1 rfl) ?_
          refine lv_iconst (v := 1) hx hb dX3_fewestFrom_41 li_1 ?_
          refine lv_iadd hx hb dX3_fewestFrom_42 ?_
          refine lv_lload_n hx hb dX3_fewestFrom_43 rfl (lv_at hl 2 rfl) ?_
          obtain ⟨r7, hc8, h⟩ := bd_ex h
          refine sl_S K (ihd pp σpp (x2 + (1 : Int32)) x3 hc8) tw_4_44 tw_1_10 tw_4_43 tw_4_42 cdX3_fewestFrom ⟨by simp only [RM]; omega, by simp only [RM]; omega⟩ hP hD hS [0] rfl rfl rfl rfl hl.1 (Nat.le_of_ble_eq_true rfl) ⟨Nat.zero_le _, Nat.zero_le _⟩ dX3_fewestFrom_44 (fun H locs hP hD hS => ?_)
          have hP : va_P G.1 vwCl (List.flatten [wP G pp σpp]) H := hP
          have hD : va_D A (List.flatten [wP G pp σpp]) := hD
          refine lv_istore (lv' := [(4, .int r7), (0, .ref (pp 0)), (1, .int x2), (2, .long x3)]) hx hb dX3_fewestFrom_47 hl (Nat.le_of_ble_eq_true rfl) rfl (fun ls hl => ?_)
          refine lv_iload hx hb dX3_fewestFrom_49 (lv_at hl 0 rfl) ?_
          refine lv_iconst (v := 1) hx hb dX3_fewestFrom_51 li_1 ?_
          refine lv_aload_n hx hb dX3_fewestFrom_52 rfl (lv_at hl 1 rfl) ?_
          refine lv_iload_n hx hb dX3_fewestFrom_53 rfl (lv_at hl 2 rfl) ?_
          refine lv_iconst (v := 1) hx hb dX3_fewestFrom_54 li_1 ?_
          refine lv_iadd hx hb dX3_fewestFrom_55 ?_
          refine lv_lload_n hx hb dX3_fewestFrom_56 rfl (lv_at hl 3 rfl) ?_
          refine lv_aload_n hx hb dX3_fewestFrom_57 rfl (lv_at hl 1 rfl) ?_
          refine lv_iload_n hx hb dX3_fewestFrom_58 rfl (lv_at hl 2 rfl) ?_
          obtain ⟨r9, hc10, h⟩ := bd_ex h
          refine sl_V (q0 := 0) (ci := 3) (C := RX3) K (mX3_tallest l G 0 pp σpp x2 hc10) tw_4_17 tw_1_10 tw_4_15 tw_4_16 tw_4_14 cdX3_tallest ⟨by simp only [RM]; omega, by simp only [RM]; omega⟩ hP hD hS [0] rfl rfl rfl rfl rfl rfl rfl hl.1 (Nat.le_of_ble_eq_true rfl) ⟨Nat.zero_le _, Nat.zero_le _⟩ dX3_fewestFrom_59 (fun H locs hP hD hS => ?_)
          have hP : va_P G.1 vwCl (List.flatten [wP G pp σpp]) H := hP
          have hD : va_D A (List.flatten [wP G pp σpp]) := hD
          refine lv_lor hx hb dX3_fewestFrom_62 ?_
          obtain ⟨r11, hc12, h⟩ := bd_ex h
          refine sl_S K (ihd pp σpp (x2 + (1 : Int32)) (x3 ||| r9) hc12) tw_4_44 tw_1_10 tw_4_43 tw_4_42 cdX3_fewestFrom ⟨by simp only [RM]; omega, by simp only [RM]; omega⟩ hP hD hS [0] rfl rfl rfl rfl hl.1 (Nat.le_of_ble_eq_true rfl) ⟨Nat.zero_le _, Nat.zero_le _⟩ dX3_fewestFrom_63 (fun H locs hP hD hS => ?_)
          have hP : va_P G.1 vwCl (List.flatten [wP G pp σpp]) H := hP
          have hD : va_D A (List.flatten [wP G pp σpp]) := hD
          refine lv_iadd hx hb dX3_fewestFrom_66 ?_
          refine va_mmin hx hb (hml.trans hl.1.symm) hown (hts _ tw_4_45) (hts _ tw_2_135) (hts _ tw_1_15) (hts _ tw_2_136) (by simp only [RM]; omega) (by show 0 + 13 ≤ 40 * _; omega) (Nat.zero_le _) (Nat.zero_le _) dX3_fewestFrom_67 ?_
          cases h
          exact rt_i K hP hD hS dX3_fewestFrom_70
        · have h := if_f c6 h
          refine lv_bipush (v := 11) hx hb dX3_fewestFrom_36 lb_11 ?_
          cases h
          exact rt_i K hP hD hS dX3_fewestFrom_38
    · have h := if_t c1 h
      refine lv_iconst (v := 0) hx hb dX3_fewestFrom_9 li_0 ?_
      cases h
      exact rt_i K hP hD hS dX3_fewestFrom_10
def fX3_fewestHeads (F : Nat) (σpp : ST)  : Option (Int32) :=
  (fX3_fewestFrom 13 σpp (0 : Int32) (0 : Int64)).bind fun r1 =>
  some r1
theorem cdX3_fewestHeads : CallD yX3_fewestHeads 0 := by decide +kernel
set_option maxHeartbeats 4000000 in
set_option maxRecDepth 100000 in
theorem mX3_fewestHeads (l : Launch) (G : GP) (F : Nat) (pp : Nat → Nat) (σpp : ST)  {r : Int32} (h : fX3_fewestHeads F σpp  = some r) : CC l G yX3_fewestHeads cX3_fewestHeads 1 (some .int) 17 [.ref (pp 0)] (List.flatten [wP G pp σpp]) (List.flatten [wP G pp σpp]) (some (.int r)) := by
  refine CC.of (by decide) (Nat.le_of_ble_eq_true rfl) ?_
  intro p e s m below meth c A K hP hD hS ls hl
  obtain ⟨hx, hb, hr, hml, hts, hown, hlocks, hA, hG⟩ := id K
  have hl : lv_has ls 1 [(0, .ref (pp 0))] := hl
  unfold fX3_fewestHeads at h
  refine lv_aload_n hx hb dX3_fewestHeads_0 rfl (lv_at hl 0 rfl) ?_
  refine lv_iconst (v := 0) hx hb dX3_fewestHeads_1 li_0 ?_
  refine lv_lconst (v := 0) hx hb dX3_fewestHeads_2 ll_0 ?_
  obtain ⟨r1, hc2, h⟩ := bd_ex h
  refine sl_S K (mX3_fewestFrom l G 13 pp σpp (0 : Int32) (0 : Int64) hc2) tw_4_44 tw_1_10 tw_4_43 tw_4_42 cdX3_fewestFrom ⟨Nat.le_of_ble_eq_true rfl, Nat.le_of_ble_eq_true rfl⟩ hP hD hS [0] rfl rfl rfl rfl hl.1 (Nat.le_of_ble_eq_true rfl) ⟨Nat.zero_le _, Nat.zero_le _⟩ dX3_fewestHeads_3 (fun H locs hP hD hS => ?_)
  have hP : va_P G.1 vwCl (List.flatten [wP G pp σpp]) H := hP
  have hD : va_D A (List.flatten [wP G pp σpp]) := hD
  cases h
  exact rt_i K hP hD hS dX3_fewestHeads_6
def gbX3_darkWithout_5 (F : Nat) (σpp : ST) (v1 : Int32) (rc : Int64 → Int32 → Option (Int64 × Int32)) (v2 : Int64) (v4 : Int32) : Option (Int64 × Int32) :=
  if (10 : Int32) ≤ v4 then
    some (v2, v4)
  else
    if v4 = v1 then
      rc (v2 ||| (0 : Int64)) (v4 + 1)
    else
      (fX3_tallest F σpp v4).bind fun r3 =>
      rc (v2 ||| r3) (v4 + 1)
def gX3_darkWithout_5 (F : Nat) (σpp : ST) (v1 : Int32) : Nat → Int64 → Int32 → Option (Int64 × Int32)
  | 0, _, _ => none
  | n + 1, v2, v4 => gbX3_darkWithout_5 F σpp v1 (gX3_darkWithout_5 F σpp v1 n) v2 v4
set_option maxHeartbeats 4000000 in
set_option maxRecDepth 100000 in
theorem kX3_darkWithout_5 {p : Program} {l : Launch} {e : Env} {s : State} {m : MethodId} {args : Array Value} {below : List Frame} {meth : Method} {c : Code} {A : Nat → Prop} {Q : State → Prop} {G : GP} (K : Cx p s m meth c G cX3_darkWithout RX3 5 (some .long) args A) (F : Nat) (pp : Nat → Nat) (σpp : ST) (v1 : Int32) {z : Int64 × Int32} (kk : ∀ (H : Heap) (locs : List Loc) (ls : Array Slot), va_P G.1 vwCl (List.flatten [wP G pp σpp]) H → va_D A (List.flatten [wP G pp σpp]) → va_S A s.heap H locs → lv_has ls 5 [(0, .ref (pp 0)), (1, .int v1), (2, .long z.1), (4, .int z.2)] → W p l e (RM 2) s m args below meth c H locs 0 0 Q (F0 m 37 ls [])) :
    ∀ (n : Nat) (v2 : Int64) (v4 : Int32) (H : Heap) (locs : List Loc) (ls : Array Slot), va_P G.1 vwCl (List.flatten [wP G pp σpp]) H → va_D A (List.flatten [wP G pp σpp]) → va_S A s.heap H locs → lv_has ls 5 [(0, .ref (pp 0)), (1, .int v1), (2, .long v2), (4, .int v4)] → gX3_darkWithout_5 F σpp v1 n v2 v4 = some z → W p l e (RM 2) s m args below meth c H locs 0 0 Q (F0 m 5 ls []) := by
  obtain ⟨hx, hb, hr, hml, hts, hown, hlocks, hA, hG⟩ := id K
  intro n
  induction n with
  | zero =>
    intro v2 v4 H locs ls hP hD hS hl h
    have h : none = some z := h
    cases h
  | succ n ih =>
    intro v2 v4 H locs ls hP hD hS hl h
    have h : gbX3_darkWithout_5 F σpp v1 (gX3_darkWithout_5 F σpp v1 n) v2 v4 = some z := h
    unfold gbX3_darkWithout_5 at h
    refine lv_iload hx hb dX3_darkWithout_5 (lv_at hl 3 rfl) ?_
    refine lv_bipush (v := 10) hx hb dX3_darkWithout_7 lb_10 ?_
    refine lv_icmp_ge (tgt := 37) hx hb dX3_darkWithout_9 (by decide) (fun c1 => ?_) (fun c1 => ?_)
    · have h := if_t c1 h
      cases h
      exact kk _ _ _ hP hD hS (lv_sub hl [0, 1, 2, 3] rfl)
    · have h := if_f c1 h
      refine lv_lload_n hx hb dX3_darkWithout_12 rfl (lv_at hl 2 rfl) ?_
      refine lv_iload hx hb dX3_darkWithout_13 (lv_at hl 3 rfl) ?_
      refine lv_iload_n hx hb dX3_darkWithout_15 rfl (lv_at hl 1 rfl) ?_
      refine lv_icmp_ne (tgt := 23) hx hb dX3_darkWithout_16 (by decide) (fun c2 => ?_) (fun c2 => ?_)
      · have h := if_f c2 h
        refine lv_aload_n hx hb dX3_darkWithout_23 rfl (lv_at hl 0 rfl) ?_
        refine lv_iload hx hb dX3_darkWithout_24 (lv_at hl 3 rfl) ?_
        obtain ⟨r3, hc4, h⟩ := bd_ex h
        refine sl_V (q0 := 0) (ci := 3) (C := RX3) K (mX3_tallest l G F pp σpp v4 hc4) tw_4_17 tw_1_10 tw_4_15 tw_4_16 tw_4_14 cdX3_tallest ⟨Nat.le_of_ble_eq_true rfl, Nat.le_of_ble_eq_true rfl⟩ hP hD hS [0] rfl rfl rfl rfl rfl rfl rfl hl.1 (Nat.le_of_ble_eq_true rfl) ⟨Nat.zero_le _, Nat.zero_le _⟩ dX3_darkWithout_26 (fun H locs hP hD hS => ?_)
        have hP : va_P G.1 vwCl (List.flatten [wP G pp σpp]) H := hP
        have hD : va_D A (List.flatten [wP G pp σpp]) := hD
        refine lv_lor hx hb dX3_darkWithout_29 ?_
        refine lv_lstore_n (lv' := [(2, .long (v2 ||| r3)), (0, .ref (pp 0)), (1, .int v1), (4, .int v4)]) hx hb dX3_darkWithout_30 rfl hl (Nat.le_of_ble_eq_true rfl) rfl (fun ls hl => ?_)
        refine lv_iinc (v := v4 + 1) (lv' := [(4, .int (v4 + 1)), (2, .long (v2 ||| r3)), (0, .ref (pp 0)), (1, .int v1)]) hx hb dX3_darkWithout_31 hl (k := 3) rfl (by rw [li_1]) (Nat.le_of_ble_eq_true rfl) rfl (fun ls hl => ?_)
        refine lv_goto (tgt := 5) hx hb dX3_darkWithout_34 (by decide) ?_
        exact ih (v2 ||| r3) (v4 + 1) _ _ _ hP hD hS (lv_sub hl [2, 3, 1, 0] rfl) h
      · have h := if_t c2 h
        refine lv_lconst (v := 0) hx hb dX3_darkWithout_19 ll_0 ?_
        refine lv_goto (tgt := 29) hx hb dX3_darkWithout_20 (by decide) ?_
        refine lv_lor hx hb dX3_darkWithout_29 ?_
        refine lv_lstore_n (lv' := [(2, .long (v2 ||| (0 : Int64))), (0, .ref (pp 0)), (1, .int v1), (4, .int v4)]) hx hb dX3_darkWithout_30 rfl hl (Nat.le_of_ble_eq_true rfl) rfl (fun ls hl => ?_)
        refine lv_iinc (v := v4 + 1) (lv' := [(4, .int (v4 + 1)), (2, .long (v2 ||| (0 : Int64))), (0, .ref (pp 0)), (1, .int v1)]) hx hb dX3_darkWithout_31 hl (k := 3) rfl (by rw [li_1]) (Nat.le_of_ble_eq_true rfl) rfl (fun ls hl => ?_)
        refine lv_goto (tgt := 5) hx hb dX3_darkWithout_34 (by decide) ?_
        exact ih (v2 ||| (0 : Int64)) (v4 + 1) _ _ _ hP hD hS (lv_sub hl [2, 3, 1, 0] rfl) h
def fX3_darkWithout (F : Nat) (σpp : ST) (x1 : Int32) : Option (Int64) :=
  (gX3_darkWithout_5 F σpp x1 F (0 : Int64) (0 : Int32)).bind fun z5 =>
    some z5.1
theorem cdX3_darkWithout : CallD yX3_darkWithout 1 := by decide +kernel
set_option maxHeartbeats 4000000 in
set_option maxRecDepth 100000 in
theorem mX3_darkWithout (l : Launch) (G : GP) (F : Nat) (pp : Nat → Nat) (σpp : ST) (x1 : Int32) {r : Int64} (h : fX3_darkWithout F σpp x1 = some r) : CC l G yX3_darkWithout cX3_darkWithout 5 (some .long) 2 [.ref (pp 0), .int x1] (List.flatten [wP G pp σpp]) (List.flatten [wP G pp σpp]) (some (.long r)) := by
  refine CC.of (by decide) (Nat.le_of_ble_eq_true rfl) ?_
  intro p e s m below meth c A K hP hD hS ls hl
  obtain ⟨hx, hb, hr, hml, hts, hown, hlocks, hA, hG⟩ := id K
  have hl : lv_has ls 5 [(0, .ref (pp 0)), (1, .int x1)] := hl
  unfold fX3_darkWithout at h
  refine lv_lconst (v := 0) hx hb dX3_darkWithout_0 ll_0 ?_
  refine lv_lstore_n (lv' := [(2, .long (0 : Int64)), (0, .ref (pp 0)), (1, .int x1)]) hx hb dX3_darkWithout_1 rfl hl (Nat.le_of_ble_eq_true rfl) rfl (fun ls hl => ?_)
  refine lv_iconst (v := 0) hx hb dX3_darkWithout_2 li_0 ?_
  refine lv_istore (lv' := [(4, .int (0 : Int32)), (2, .long (0 : Int64)), (0, .ref (pp 0)), (1, .int x1)]) hx hb dX3_darkWithout_3 hl (Nat.le_of_ble_eq_true rfl) rfl (fun ls hl => ?_)
  obtain ⟨z5, hz6, h⟩ := bd_ex h
  refine kX3_darkWithout_5 K F pp σpp x1 (fun H locs ls hP hD hS hl => ?_) F (0 : Int64) (0 : Int32) _ _ _ hP hD hS (lv_sub hl [2, 3, 1, 0] rfl) hz6
  refine lv_lload_n hx hb dX3_darkWithout_37 rfl (lv_at hl 2 rfl) ?_
  cases h
  exact rt_l K hP hD hS dX3_darkWithout_38
def gbX3_surelyTaken_4 (F : Nat) (σpp : ST) (rc : Int32 → Int32 → Option (Int32 × Int32)) (v1 : Int32) (v2 : Int32) : Option (Int32 × Int32) :=
  if (10 : Int32) ≤ v2 then
    some (v1, v2)
  else
    (fX3_darkWithout F σpp v2).bind fun r2 =>
    if (lg_cmp r2 (σpp.2.2.1 7)) = 0 then
      rc (v1 ||| (0 : Int32)) (v2 + 1)
    else
      rc (v1 ||| ((1 : Int32) <<< (v2 &&& 31))) (v2 + 1)
def gX3_surelyTaken_4 (F : Nat) (σpp : ST) : Nat → Int32 → Int32 → Option (Int32 × Int32)
  | 0, _, _ => none
  | n + 1, v1, v2 => gbX3_surelyTaken_4 F σpp (gX3_surelyTaken_4 F σpp n) v1 v2
set_option maxHeartbeats 4000000 in
set_option maxRecDepth 100000 in
theorem kX3_surelyTaken_4 {p : Program} {l : Launch} {e : Env} {s : State} {m : MethodId} {args : Array Value} {below : List Frame} {meth : Method} {c : Code} {A : Nat → Prop} {Q : State → Prop} {G : GP} (K : Cx p s m meth c G cX3_surelyTaken RX3 3 (some .int) args A) (F : Nat) (pp : Nat → Nat) (σpp : ST) {z : Int32 × Int32} (kk : ∀ (H : Heap) (locs : List Loc) (ls : Array Slot), va_P G.1 vwCl (List.flatten [wP G pp σpp]) H → va_D A (List.flatten [wP G pp σpp]) → va_S A s.heap H locs → lv_has ls 3 [(0, .ref (pp 0)), (1, .int z.1), (2, .int z.2)] → W p l e (RM 3) s m args below meth c H locs 0 0 Q (F0 m 39 ls [])) :
    ∀ (n : Nat) (v1 : Int32) (v2 : Int32) (H : Heap) (locs : List Loc) (ls : Array Slot), va_P G.1 vwCl (List.flatten [wP G pp σpp]) H → va_D A (List.flatten [wP G pp σpp]) → va_S A s.heap H locs → lv_has ls 3 [(0, .ref (pp 0)), (1, .int v1), (2, .int v2)] → gX3_surelyTaken_4 F σpp n v1 v2 = some z → W p l e (RM 3) s m args below meth c H locs 0 0 Q (F0 m 4 ls []) := by
  obtain ⟨hx, hb, hr, hml, hts, hown, hlocks, hA, hG⟩ := id K
  intro n
  induction n with
  | zero =>
    intro v1 v2 H locs ls hP hD hS hl h
    have h : none = some z := h
    cases h
  | succ n ih =>
    intro v1 v2 H locs ls hP hD hS hl h
    have h : gbX3_surelyTaken_4 F σpp (gX3_surelyTaken_4 F σpp n) v1 v2 = some z := h
    unfold gbX3_surelyTaken_4 at h
    refine lv_iload_n hx hb dX3_surelyTaken_4 rfl (lv_at hl 2 rfl) ?_
    refine lv_bipush (v := 10) hx hb dX3_surelyTaken_5 lb_10 ?_
    refine lv_icmp_ge (tgt := 39) hx hb dX3_surelyTaken_7 (by decide) (fun c1 => ?_) (fun c1 => ?_)
    · have h := if_t c1 h
      cases h
      exact kk _ _ _ hP hD hS (lv_sub hl [0, 1, 2] rfl)
    · have h := if_f c1 h
      refine lv_iload_n hx hb dX3_surelyTaken_10 rfl (lv_at hl 1 rfl) ?_
      refine lv_aload_n hx hb dX3_surelyTaken_11 rfl (lv_at hl 0 rfl) ?_
      refine lv_iload_n hx hb dX3_surelyTaken_12 rfl (lv_at hl 2 rfl) ?_
      obtain ⟨r2, hc3, h⟩ := bd_ex h
      refine sl_V (q0 := 0) (ci := 3) (C := RX3) K (mX3_darkWithout l G F pp σpp v2 hc3) tw_4_57 tw_1_10 tw_4_55 tw_4_56 tw_4_54 cdX3_darkWithout ⟨Nat.le_of_ble_eq_true rfl, Nat.le_of_ble_eq_true rfl⟩ hP hD hS [0] rfl rfl rfl rfl rfl rfl rfl hl.1 (Nat.le_of_ble_eq_true rfl) ⟨Nat.zero_le _, Nat.zero_le _⟩ dX3_surelyTaken_13 (fun H locs hP hD hS => ?_)
      have hP : va_P G.1 vwCl (List.flatten [wP G pp σpp]) H := hP
      have hD : va_D A (List.flatten [wP G pp σpp]) := hD
      refine lv_aload_n hx hb dX3_surelyTaken_16 rfl (lv_at hl 0 rfl) ?_
      refine va_get (D := G.1) (cl := vwCl) (tys := tysG G) (ci := 3) (v := .long (σpp.2.2.1 7)) (C := RX3) (T := TX3) (N := 8) hx hb hts iX3 hown hG.1 hP 0 rfl rfl 7 (Nat.le_of_ble_eq_true rfl) (hts _ tw_1_239) (fun _ h9 => h9) rfl dX3_surelyTaken_17 ?_
      refine W.lcmp hx hb dX3_surelyTaken_20 ?_
      refine lv_if_ne (tgt := 28) hx hb dX3_surelyTaken_21 (by decide) (fun c4 => ?_) (fun c4 => ?_)
      · have h := if_f c4 h
        refine lv_iconst (v := 1) hx hb dX3_surelyTaken_28 li_1 ?_
        refine lv_iload_n hx hb dX3_surelyTaken_29 rfl (lv_at hl 2 rfl) ?_
        refine lv_ishl hx hb dX3_surelyTaken_30 ?_
        refine lv_ior hx hb dX3_surelyTaken_31 ?_
        refine lv_istore_n (lv' := [(1, .int (v1 ||| ((1 : Int32) <<< (v2 &&& 31)))), (0, .ref (pp 0)), (2, .int v2)]) hx hb dX3_surelyTaken_32 rfl hl (Nat.le_of_ble_eq_true rfl) rfl (fun ls hl => ?_)
        refine lv_iinc (v := v2 + 1) (lv' := [(2, .int (v2 + 1)), (1, .int (v1 ||| ((1 : Int32) <<< (v2 &&& 31)))), (0, .ref (pp 0))]) hx hb dX3_surelyTaken_33 hl (k := 2) rfl (by rw [li_1]) (Nat.le_of_ble_eq_true rfl) rfl (fun ls hl => ?_)
        refine lv_goto (tgt := 4) hx hb dX3_surelyTaken_36 (by decide) ?_
        exact ih (v1 ||| ((1 : Int32) <<< (v2 &&& 31))) (v2 + 1) _ _ _ hP hD hS (lv_sub hl [2, 1, 0] rfl) h
      · have h := if_t c4 h
        refine lv_iconst (v := 0) hx hb dX3_surelyTaken_24 li_0 ?_
        refine lv_goto (tgt := 31) hx hb dX3_surelyTaken_25 (by decide) ?_
        refine lv_ior hx hb dX3_surelyTaken_31 ?_
        refine lv_istore_n (lv' := [(1, .int (v1 ||| (0 : Int32))), (0, .ref (pp 0)), (2, .int v2)]) hx hb dX3_surelyTaken_32 rfl hl (Nat.le_of_ble_eq_true rfl) rfl (fun ls hl => ?_)
        refine lv_iinc (v := v2 + 1) (lv' := [(2, .int (v2 + 1)), (1, .int (v1 ||| (0 : Int32))), (0, .ref (pp 0))]) hx hb dX3_surelyTaken_33 hl (k := 2) rfl (by rw [li_1]) (Nat.le_of_ble_eq_true rfl) rfl (fun ls hl => ?_)
        refine lv_goto (tgt := 4) hx hb dX3_surelyTaken_36 (by decide) ?_
        exact ih (v1 ||| (0 : Int32)) (v2 + 1) _ _ _ hP hD hS (lv_sub hl [2, 1, 0] rfl) h
def fX3_surelyTaken (F : Nat) (σpp : ST)  : Option (Int32) :=
  (gX3_surelyTaken_4 F σpp F (0 : Int32) (0 : Int32)).bind fun z5 =>
    some z5.1
theorem cdX3_surelyTaken : CallD yX3_surelyTaken 0 := by decide +kernel
set_option maxHeartbeats 4000000 in
set_option maxRecDepth 100000 in
theorem mX3_surelyTaken (l : Launch) (G : GP) (F : Nat) (pp : Nat → Nat) (σpp : ST)  {r : Int32} (h : fX3_surelyTaken F σpp  = some r) : CC l G yX3_surelyTaken cX3_surelyTaken 3 (some .int) 3 [.ref (pp 0)] (List.flatten [wP G pp σpp]) (List.flatten [wP G pp σpp]) (some (.int r)) := by
  refine CC.of (by decide) (Nat.le_of_ble_eq_true rfl) ?_
  intro p e s m below meth c A K hP hD hS ls hl
  obtain ⟨hx, hb, hr, hml, hts, hown, hlocks, hA, hG⟩ := id K
  have hl : lv_has ls 3 [(0, .ref (pp 0))] := hl
  unfold fX3_surelyTaken at h
  refine lv_iconst (v := 0) hx hb dX3_surelyTaken_0 li_0 ?_
  refine lv_istore_n (lv' := [(1, .int (0 : Int32)), (0, .ref (pp 0))]) hx hb dX3_surelyTaken_1 rfl hl (Nat.le_of_ble_eq_true rfl) rfl (fun ls hl => ?_)
  refine lv_iconst (v := 0) hx hb dX3_surelyTaken_2 li_0 ?_
  refine lv_istore_n (lv' := [(2, .int (0 : Int32)), (1, .int (0 : Int32)), (0, .ref (pp 0))]) hx hb dX3_surelyTaken_3 rfl hl (Nat.le_of_ble_eq_true rfl) rfl (fun ls hl => ?_)
  obtain ⟨z5, hz6, h⟩ := bd_ex h
  refine kX3_surelyTaken_4 K F pp σpp (fun H locs ls hP hD hS hl => ?_) F (0 : Int32) (0 : Int32) _ _ _ hP hD hS (lv_sub hl [2, 1, 0] rfl) hz6
  refine lv_iload_n hx hb dX3_surelyTaken_39 rfl (lv_at hl 1 rfl) ?_
  cases h
  exact rt_i K hP hD hS dX3_surelyTaken_40
def gbX3_mayShow_8 (F : Nat) (σpp : ST) (v1 : Int32) (rc : Int64 → Int32 → Int32 → Option (Int64 × Int32 × Int32)) (v2 : Int64) (v4 : Int32) (v5 : Int32) : Option (Int64 × Int32 × Int32) :=
  if (10 : Int32) ≤ v5 then
    some (v2, v4, v5)
  else
    if v5 < 0 ∨ 10 ≤ v5.toNatClampNeg then none else
    if (σpp.2.1 2 v5.toNatClampNeg) = (3 : Int32) then
      if ((σpp.2.1 6 v5.toNatClampNeg) &&& (v1 ^^^ (-1 : Int32))) = 0 then
        rc (v2 ||| (σpp.2.2.2 1 v5.toNatClampNeg)) (v4 ||| (σpp.2.1 6 v5.toNatClampNeg)) (v5 + 1)
      else
        if (σpp.2.1 2 v5.toNatClampNeg) < (2 : Int32) then
          rc v2 v4 (v5 + 1)
        else
          if ((σpp.2.1 5 v5.toNatClampNeg) &&& (v1 ^^^ (-1 : Int32))) = 0 then
            rc (v2 ||| (σpp.2.2.2 0 v5.toNatClampNeg)) (v4 ||| (σpp.2.1 5 v5.toNatClampNeg)) (v5 + 1)
          else
            rc v2 v4 (v5 + 1)
    else
      if (σpp.2.1 2 v5.toNatClampNeg) < (2 : Int32) then
        rc v2 v4 (v5 + 1)
      else
        if ((σpp.2.1 5 v5.toNatClampNeg) &&& (v1 ^^^ (-1 : Int32))) = 0 then
          rc (v2 ||| (σpp.2.2.2 0 v5.toNatClampNeg)) (v4 ||| (σpp.2.1 5 v5.toNatClampNeg)) (v5 + 1)
        else
          rc v2 v4 (v5 + 1)
def gX3_mayShow_8 (F : Nat) (σpp : ST) (v1 : Int32) : Nat → Int64 → Int32 → Int32 → Option (Int64 × Int32 × Int32)
  | 0, _, _, _ => none
  | n + 1, v2, v4, v5 => gbX3_mayShow_8 F σpp v1 (gX3_mayShow_8 F σpp v1 n) v2 v4 v5
set_option maxHeartbeats 4000000 in
set_option maxRecDepth 100000 in
theorem kX3_mayShow_8 {p : Program} {l : Launch} {e : Env} {s : State} {m : MethodId} {args : Array Value} {below : List Frame} {meth : Method} {c : Code} {A : Nat → Prop} {Q : State → Prop} {G : GP} (K : Cx p s m meth c G cX3_mayShow RX3 6 (some .boolean) args A) (F : Nat) (pp : Nat → Nat) (σpp : ST) (v1 : Int32) {z : Int64 × Int32 × Int32} (kk : ∀ (H : Heap) (locs : List Loc) (ls : Array Slot), va_P G.1 vwCl (List.flatten [wP G pp σpp]) H → va_D A (List.flatten [wP G pp σpp]) → va_S A s.heap H locs → lv_has ls 6 [(0, .ref (pp 0)), (1, .int v1), (2, .long z.1), (4, .int z.2.1), (5, .int z.2.2)] → W p l e (RM 1) s m args below meth c H locs 0 0 Q (F0 m 118 ls [])) :
    ∀ (n : Nat) (v2 : Int64) (v4 : Int32) (v5 : Int32) (H : Heap) (locs : List Loc) (ls : Array Slot), va_P G.1 vwCl (List.flatten [wP G pp σpp]) H → va_D A (List.flatten [wP G pp σpp]) → va_S A s.heap H locs → lv_has ls 6 [(0, .ref (pp 0)), (1, .int v1), (2, .long v2), (4, .int v4), (5, .int v5)] → gX3_mayShow_8 F σpp v1 n v2 v4 v5 = some z → W p l e (RM 1) s m args below meth c H locs 0 0 Q (F0 m 8 ls []) := by
  obtain ⟨hx, hb, hr, hml, hts, hown, hlocks, hA, hG⟩ := id K
  intro n
  induction n with
  | zero =>
    intro v2 v4 v5 H locs ls hP hD hS hl h
    have h : none = some z := h
    cases h
  | succ n ih =>
    intro v2 v4 v5 H locs ls hP hD hS hl h
    have h : gbX3_mayShow_8 F σpp v1 (gX3_mayShow_8 F σpp v1 n) v2 v4 v5 = some z := h
    unfold gbX3_mayShow_8 at h
    refine lv_iload hx hb dX3_mayShow_8 (lv_at hl 4 rfl) ?_
    refine lv_bipush (v := 10) hx hb dX3_mayShow_10 lb_10 ?_
    refine lv_icmp_ge (tgt := 118) hx hb dX3_mayShow_12 (by decide) (fun c1 => ?_) (fun c1 => ?_)
    · have h := if_t c1 h
      cases h
      exact kk _ _ _ hP hD hS (lv_sub hl [0, 1, 2, 3, 4] rfl)
    · have h := if_f c1 h
      refine lv_aload_n hx hb dX3_mayShow_15 rfl (lv_at hl 0 rfl) ?_
      refine va_get (D := G.1) (cl := vwCl) (tys := tysG G) (ci := 3) (v := .ref (pp 3)) (C := RX3) (T := TX3) (N := 8) hx hb hts iX3 hown hG.1 hP 0 rfl rfl 2 (Nat.le_of_ble_eq_true rfl) (hts _ tw_1_234) (fun _ h9 => h9) rfl dX3_mayShow_16 ?_
      refine lv_iload hx hb dX3_mayShow_19 (lv_at hl 4 rfl) ?_
      obtain ⟨ck2, h⟩ := ck h
      refine va_iald hx hb hG.1 hP 3 0 rfl rfl ck2 dX3_mayShow_21 ?_
      refine lv_iconst (v := 3) hx hb dX3_mayShow_22 li_3 ?_
      refine lv_icmp_ne (tgt := 65) hx hb dX3_mayShow_23 (by decide) (fun c3 => ?_) (fun c3 => ?_)
      · have h := if_f c3 h
        refine lv_aload_n hx hb dX3_mayShow_65 rfl (lv_at hl 0 rfl) ?_
        refine va_get (D := G.1) (cl := vwCl) (tys := tysG G) (ci := 3) (v := .ref (pp 3)) (C := RX3) (T := TX3) (N := 8) hx hb hts iX3 hown hG.1 hP 0 rfl rfl 2 (Nat.le_of_ble_eq_true rfl) (hts _ tw_1_234) (fun _ h9 => h9) rfl dX3_mayShow_66 ?_
        refine lv_iload hx hb dX3_mayShow_69 (lv_at hl 4 rfl) ?_
        refine va_iald hx hb hG.1 hP 3 0 rfl rfl ck2 dX3_mayShow_71 ?_
        refine lv_iconst (v := 2) hx hb dX3_mayShow_72 li_2 ?_
        refine lv_icmp_lt (tgt := 112) hx hb dX3_mayShow_73 (by decide) (fun c4 => ?_) (fun c4 => ?_)
        · have h := if_t c4 h
          refine lv_iinc (v := v5 + 1) (lv' := [(5, .int (v5 + 1)), (0, .ref (pp 0)), (1, .int v1), (2, .long v2), (4, .int v4)]) hx hb dX3_mayShow_112 hl (k := 4) rfl (by rw [li_1]) (Nat.le_of_ble_eq_true rfl) rfl (fun ls hl => ?_)
          refine lv_goto (tgt := 8) hx hb dX3_mayShow_115 (by decide) ?_
          exact ih v2 v4 (v5 + 1) _ _ _ hP hD hS (lv_sub hl [1, 2, 3, 4, 0] rfl) h
        · have h := if_f c4 h
          refine lv_aload_n hx hb dX3_mayShow_76 rfl (lv_at hl 0 rfl) ?_
          refine va_get (D := G.1) (cl := vwCl) (tys := tysG G) (ci := 3) (v := .ref (pp 6)) (C := RX3) (T := TX3) (N := 8) hx hb hts iX3 hown hG.1 hP 0 rfl rfl 5 (Nat.le_of_ble_eq_true rfl) (hts _ tw_1_237) (fun _ h9 => h9) rfl dX3_mayShow_77 ?_
          refine lv_iload hx hb dX3_mayShow_80 (lv_at hl 4 rfl) ?_
          refine va_iald hx hb hG.1 hP 6 0 rfl rfl ck2 dX3_mayShow_82 ?_
          refine lv_iload_n hx hb dX3_mayShow_83 rfl (lv_at hl 1 rfl) ?_
          refine lv_iconst (v := -1) hx hb dX3_mayShow_84 li_m1 ?_
          refine lv_ixor hx hb dX3_mayShow_85 ?_
          refine lv_iand hx hb dX3_mayShow_86 ?_
          refine lv_if_ne (tgt := 112) hx hb dX3_mayShow_87 (by decide) (fun c5 => ?_) (fun c5 => ?_)
          · have h := if_f c5 h
            refine lv_iinc (v := v5 + 1) (lv' := [(5, .int (v5 + 1)), (0, .ref (pp 0)), (1, .int v1), (2, .long v2), (4, .int v4)]) hx hb dX3_mayShow_112 hl (k := 4) rfl (by rw [li_1]) (Nat.le_of_ble_eq_true rfl) rfl (fun ls hl => ?_)
            refine lv_goto (tgt := 8) hx hb dX3_mayShow_115 (by decide) ?_
            exact ih v2 v4 (v5 + 1) _ _ _ hP hD hS (lv_sub hl [1, 2, 3, 4, 0] rfl) h
          · have h := if_t c5 h
            refine lv_lload_n hx hb dX3_mayShow_90 rfl (lv_at hl 2 rfl) ?_
            refine lv_aload_n hx hb dX3_mayShow_91 rfl (lv_at hl 0 rfl) ?_
            refine va_get (D := G.1) (cl := vwCl) (tys := tysG G) (ci := 3) (v := .ref (pp 1)) (C := RX3) (T := TX3) (N := 8) hx hb hts iX3 hown hG.1 hP 0 rfl rfl 0 (Nat.le_of_ble_eq_true rfl) (hts _ tw_1_232) (fun _ h9 => h9) rfl dX3_mayShow_92 ?_
            refine lv_iload hx hb dX3_mayShow_95 (lv_at hl 4 rfl) ?_
            refine va_lald hx hb hG.1 hP 1 1 rfl rfl ck2 dX3_mayShow_97 ?_
            refine lv_lor hx hb dX3_mayShow_98 ?_
            refine lv_lstore_n (lv' := [(2, .long (v2 ||| (σpp.2.2.2 0 v5.toNatClampNeg))), (0, .ref (pp 0)), (1, .int v1), (4, .int v4), (5, .int v5)]) hx hb dX3_mayShow_99 rfl hl (Nat.le_of_ble_eq_true rfl) rfl (fun ls hl => ?_)
            refine lv_iload hx hb dX3_mayShow_100 (lv_at hl 3 rfl) ?_
            refine lv_aload_n hx hb dX3_mayShow_102 rfl (lv_at hl 1 rfl) ?_
            refine va_get (D := G.1) (cl := vwCl) (tys := tysG G) (ci := 3) (v := .ref (pp 6)) (C := RX3) (T := TX3) (N := 8) hx hb hts iX3 hown hG.1 hP 0 rfl rfl 5 (Nat.le_of_ble_eq_true rfl) (hts _ tw_1_237) (fun _ h9 => h9) rfl dX3_mayShow_103 ?_
            refine lv_iload hx hb dX3_mayShow_106 (lv_at hl 4 rfl) ?_
            refine va_iald hx hb hG.1 hP 6 0 rfl rfl ck2 dX3_mayShow_108 ?_
            refine lv_ior hx hb dX3_mayShow_109 ?_
            refine lv_istore (lv' := [(4, .int (v4 ||| (σpp.2.1 5 v5.toNatClampNeg))), (2, .long (v2 ||| (σpp.2.2.2 0 v5.toNatClampNeg))), (0, .ref (pp 0)), (1, .int v1), (5, .int v5)]) hx hb dX3_mayShow_110 hl (Nat.le_of_ble_eq_true rfl) rfl (fun ls hl => ?_)
            refine lv_iinc (v := v5 + 1) (lv' := [(5, .int (v5 + 1)), (4, .int (v4 ||| (σpp.2.1 5 v5.toNatClampNeg))), (2, .long (v2 ||| (σpp.2.2.2 0 v5.toNatClampNeg))), (0, .ref (pp 0)), (1, .int v1)]) hx hb dX3_mayShow_112 hl (k := 4) rfl (by rw [li_1]) (Nat.le_of_ble_eq_true rfl) rfl (fun ls hl => ?_)
            refine lv_goto (tgt := 8) hx hb dX3_mayShow_115 (by decide) ?_
            exact ih (v2 ||| (σpp.2.2.2 0 v5.toNatClampNeg)) (v4 ||| (σpp.2.1 5 v5.toNatClampNeg)) (v5 + 1) _ _ _ hP hD hS (lv_sub hl [3, 4, 2, 1, 0] rfl) h
      · have h := if_t c3 h
        refine lv_aload_n hx hb dX3_mayShow_26 rfl (lv_at hl 0 rfl) ?_
        refine va_get (D := G.1) (cl := vwCl) (tys := tysG G) (ci := 3) (v := .ref (pp 7)) (C := RX3) (T := TX3) (N := 8) hx hb hts iX3 hown hG.1 hP 0 rfl rfl 6 (Nat.le_of_ble_eq_true rfl) (hts _ tw_1_238) (fun _ h9 => h9) rfl dX3_mayShow_27 ?_
        refine lv_iload hx hb dX3_mayShow_30 (lv_at hl 4 rfl) ?_
        refine va_iald hx hb hG.1 hP 7 0 rfl rfl ck2 dX3_mayShow_32 ?_
        refine lv_iload_n hx hb dX3_mayShow_33 rfl (lv_at hl 1 rfl) ?_
        refine lv_iconst (v := -1) hx hb dX3_mayShow_34 li_m1 ?_
        refine lv_ixor hx hb dX3_mayShow_35 ?_
        refine lv_iand hx hb dX3_mayShow_36 ?_
        refine lv_if_ne (tgt := 65) hx hb dX3_mayShow_37 (by decide) (fun c6 => ?_) (fun c6 => ?_)
        · have h := if_f c6 h
          refine lv_aload_n hx hb dX3_mayShow_65 rfl (lv_at hl 0 rfl) ?_
          refine va_get (D := G.1) (cl := vwCl) (tys := tysG G) (ci := 3) (v := .ref (pp 3)) (C := RX3) (T := TX3) (N := 8) hx hb hts iX3 hown hG.1 hP 0 rfl rfl 2 (Nat.le_of_ble_eq_true rfl) (hts _ tw_1_234) (fun _ h9 => h9) rfl dX3_mayShow_66 ?_
          refine lv_iload hx hb dX3_mayShow_69 (lv_at hl 4 rfl) ?_
          refine va_iald hx hb hG.1 hP 3 0 rfl rfl ck2 dX3_mayShow_71 ?_
          refine lv_iconst (v := 2) hx hb dX3_mayShow_72 li_2 ?_
          refine lv_icmp_lt (tgt := 112) hx hb dX3_mayShow_73 (by decide) (fun c7 => ?_) (fun c7 => ?_)
          · have h := if_t c7 h
            refine lv_iinc (v := v5 + 1) (lv' := [(5, .int (v5 + 1)), (0, .ref (pp 0)), (1, .int v1), (2, .long v2), (4, .int v4)]) hx hb dX3_mayShow_112 hl (k := 4) rfl (by rw [li_1]) (Nat.le_of_ble_eq_true rfl) rfl (fun ls hl => ?_)
            refine lv_goto (tgt := 8) hx hb dX3_mayShow_115 (by decide) ?_
            exact ih v2 v4 (v5 + 1) _ _ _ hP hD hS (lv_sub hl [1, 2, 3, 4, 0] rfl) h
          · have h := if_f c7 h
            refine lv_aload_n hx hb dX3_mayShow_76 rfl (lv_at hl 0 rfl) ?_
            refine va_get (D := G.1) (cl := vwCl) (tys := tysG G) (ci := 3) (v := .ref (pp 6)) (C := RX3) (T := TX3) (N := 8) hx hb hts iX3 hown hG.1 hP 0 rfl rfl 5 (Nat.le_of_ble_eq_true rfl) (hts _ tw_1_237) (fun _ h9 => h9) rfl dX3_mayShow_77 ?_
            refine lv_iload hx hb dX3_mayShow_80 (lv_at hl 4 rfl) ?_
            refine va_iald hx hb hG.1 hP 6 0 rfl rfl ck2 dX3_mayShow_82 ?_
            refine lv_iload_n hx hb dX3_mayShow_83 rfl (lv_at hl 1 rfl) ?_
            refine lv_iconst (v := -1) hx hb dX3_mayShow_84 li_m1 ?_
            refine lv_ixor hx hb dX3_mayShow_85 ?_
            refine lv_iand hx hb dX3_mayShow_86 ?_
            refine lv_if_ne (tgt := 112) hx hb dX3_mayShow_87 (by decide) (fun c8 => ?_) (fun c8 => ?_)
            · have h := if_f c8 h
              refine lv_iinc (v := v5 + 1) (lv' := [(5, .int (v5 + 1)), (0, .ref (pp 0)), (1, .int v1), (2, .long v2), (4, .int v4)]) hx hb dX3_mayShow_112 hl (k := 4) rfl (by rw [li_1]) (Nat.le_of_ble_eq_true rfl) rfl (fun ls hl => ?_)
              refine lv_goto (tgt := 8) hx hb dX3_mayShow_115 (by decide) ?_
              exact ih v2 v4 (v5 + 1) _ _ _ hP hD hS (lv_sub hl [1, 2, 3, 4, 0] rfl) h
            · have h := if_t c8 h
              refine lv_lload_n hx hb dX3_mayShow_90 rfl (lv_at hl 2 rfl) ?_
              refine lv_aload_n hx hb dX3_mayShow_91 rfl (lv_at hl 0 rfl) ?_
              refine va_get (D := G.1) (cl := vwCl) (tys := tysG G) (ci := 3) (v := .ref (pp 1)) (C := RX3) (T := TX3) (N := 8) hx hb hts iX3 hown hG.1 hP 0 rfl rfl 0 (Nat.le_of_ble_eq_true rfl) (hts _ tw_1_232) (fun _ h9 => h9) rfl dX3_mayShow_92 ?_
              refine lv_iload hx hb dX3_mayShow_95 (lv_at hl 4 rfl) ?_
              refine va_lald hx hb hG.1 hP 1 1 rfl rfl ck2 dX3_mayShow_97 ?_
              refine lv_lor hx hb dX3_mayShow_98 ?_
              refine lv_lstore_n (lv' := [(2, .long (v2 ||| (σpp.2.2.2 0 v5.toNatClampNeg))), (0, .ref (pp 0)), (1, .int v1), (4, .int v4), (5, .int v5)]) hx hb dX3_mayShow_99 rfl hl (Nat.le_of_ble_eq_true rfl) rfl (fun ls hl => ?_)
              refine lv_iload hx hb dX3_mayShow_100 (lv_at hl 3 rfl) ?_
              refine lv_aload_n hx hb dX3_mayShow_102 rfl (lv_at hl 1 rfl) ?_
              refine va_get (D := G.1) (cl := vwCl) (tys := tysG G) (ci := 3) (v := .ref (pp 6)) (C := RX3) (T := TX3) (N := 8) hx hb hts iX3 hown hG.1 hP 0 rfl rfl 5 (Nat.le_of_ble_eq_true rfl) (hts _ tw_1_237) (fun _ h9 => h9) rfl dX3_mayShow_103 ?_
              refine lv_iload hx hb dX3_mayShow_106 (lv_at hl 4 rfl) ?_
              refine va_iald hx hb hG.1 hP 6 0 rfl rfl ck2 dX3_mayShow_108 ?_
              refine lv_ior hx hb dX3_mayShow_109 ?_
              refine lv_istore (lv' := [(4, .int (v4 ||| (σpp.2.1 5 v5.toNatClampNeg))), (2, .long (v2 ||| (σpp.2.2.2 0 v5.toNatClampNeg))), (0, .ref (pp 0)), (1, .int v1), (5, .int v5)]) hx hb dX3_mayShow_110 hl (Nat.le_of_ble_eq_true rfl) rfl (fun ls hl => ?_)
              refine lv_iinc (v := v5 + 1) (lv' := [(5, .int (v5 + 1)), (4, .int (v4 ||| (σpp.2.1 5 v5.toNatClampNeg))), (2, .long (v2 ||| (σpp.2.2.2 0 v5.toNatClampNeg))), (0, .ref (pp 0)), (1, .int v1)]) hx hb dX3_mayShow_112 hl (k := 4) rfl (by rw [li_1]) (Nat.le_of_ble_eq_true rfl) rfl (fun ls hl => ?_)
              refine lv_goto (tgt := 8) hx hb dX3_mayShow_115 (by decide) ?_
              exact ih (v2 ||| (σpp.2.2.2 0 v5.toNatClampNeg)) (v4 ||| (σpp.2.1 5 v5.toNatClampNeg)) (v5 + 1) _ _ _ hP hD hS (lv_sub hl [3, 4, 2, 1, 0] rfl) h
        · have h := if_t c6 h
          refine lv_lload_n hx hb dX3_mayShow_40 rfl (lv_at hl 2 rfl) ?_
          refine lv_aload_n hx hb dX3_mayShow_41 rfl (lv_at hl 0 rfl) ?_
          refine va_get (D := G.1) (cl := vwCl) (tys := tysG G) (ci := 3) (v := .ref (pp 2)) (C := RX3) (T := TX3) (N := 8) hx hb hts iX3 hown hG.1 hP 0 rfl rfl 1 (Nat.le_of_ble_eq_true rfl) (hts _ tw_1_233) (fun _ h9 => h9) rfl dX3_mayShow_42 ?_
          refine lv_iload hx hb dX3_mayShow_45 (lv_at hl 4 rfl) ?_
          refine va_lald hx hb hG.1 hP 2 1 rfl rfl ck2 dX3_mayShow_47 ?_
          refine lv_lor hx hb dX3_mayShow_48 ?_
          refine lv_lstore_n (lv' := [(2, .long (v2 ||| (σpp.2.2.2 1 v5.toNatClampNeg))), (0, .ref (pp 0)), (1, .int v1), (4, .int v4), (5, .int v5)]) hx hb dX3_mayShow_49 rfl hl (Nat.le_of_ble_eq_true rfl) rfl (fun ls hl => ?_)
          refine lv_iload hx hb dX3_mayShow_50 (lv_at hl 3 rfl) ?_
          refine lv_aload_n hx hb dX3_mayShow_52 rfl (lv_at hl 1 rfl) ?_
          refine va_get (D := G.1) (cl := vwCl) (tys := tysG G) (ci := 3) (v := .ref (pp 7)) (C := RX3) (T := TX3) (N := 8) hx hb hts iX3 hown hG.1 hP 0 rfl rfl 6 (Nat.le_of_ble_eq_true rfl) (hts _ tw_1_238) (fun _ h9 => h9) rfl dX3_mayShow_53 ?_
          refine lv_iload hx hb dX3_mayShow_56 (lv_at hl 4 rfl) ?_
          refine va_iald hx hb hG.1 hP 7 0 rfl rfl ck2 dX3_mayShow_58 ?_
          refine lv_ior hx hb dX3_mayShow_59 ?_
          refine lv_istore (lv' := [(4, .int (v4 ||| (σpp.2.1 6 v5.toNatClampNeg))), (2, .long (v2 ||| (σpp.2.2.2 1 v5.toNatClampNeg))), (0, .ref (pp 0)), (1, .int v1), (5, .int v5)]) hx hb dX3_mayShow_60 hl (Nat.le_of_ble_eq_true rfl) rfl (fun ls hl => ?_)
          refine lv_goto (tgt := 112) hx hb dX3_mayShow_62 (by decide) ?_
          refine lv_iinc (v := v5 + 1) (lv' := [(5, .int (v5 + 1)), (4, .int (v4 ||| (σpp.2.1 6 v5.toNatClampNeg))), (2, .long (v2 ||| (σpp.2.2.2 1 v5.toNatClampNeg))), (0, .ref (pp 0)), (1, .int v1)]) hx hb dX3_mayShow_112 hl (k := 4) rfl (by rw [li_1]) (Nat.le_of_ble_eq_true rfl) rfl (fun ls hl => ?_)
          refine lv_goto (tgt := 8) hx hb dX3_mayShow_115 (by decide) ?_
          exact ih (v2 ||| (σpp.2.2.2 1 v5.toNatClampNeg)) (v4 ||| (σpp.2.1 6 v5.toNatClampNeg)) (v5 + 1) _ _ _ hP hD hS (lv_sub hl [3, 4, 2, 1, 0] rfl) h
def fX3_mayShow (F : Nat) (σpp : ST) (x1 : Int32) : Option (Int32) :=
  (gX3_mayShow_8 F σpp x1 F (0 : Int64) (0 : Int32) (0 : Int32)).bind fun z9 =>
    if z9.2.1 = x1 then
      if (lg_cmp z9.1 (σpp.2.2.1 7)) = 0 then
        some (1 : Int32)
      else
        some (0 : Int32)
    else
      some (0 : Int32)
theorem cdX3_mayShow : CallD yX3_mayShow 1 := by decide +kernel
set_option maxHeartbeats 4000000 in
set_option maxRecDepth 100000 in
theorem mX3_mayShow (l : Launch) (G : GP) (F : Nat) (pp : Nat → Nat) (σpp : ST) (x1 : Int32) {r : Int32} (h : fX3_mayShow F σpp x1 = some r) : CC l G yX3_mayShow cX3_mayShow 6 (some .boolean) 1 [.ref (pp 0), .int x1] (List.flatten [wP G pp σpp]) (List.flatten [wP G pp σpp]) (some (.int r)) := by
  refine CC.of (by decide) (Nat.le_of_ble_eq_true rfl) ?_
  intro p e s m below meth c A K hP hD hS ls hl
  obtain ⟨hx, hb, hr, hml, hts, hown, hlocks, hA, hG⟩ := id K
  have hl : lv_has ls 6 [(0, .ref (pp 0)), (1, .int x1)] := hl
  unfold fX3_mayShow at h
  refine lv_lconst (v := 0) hx hb dX3_mayShow_0 ll_0 ?_
  refine lv_lstore_n (lv' := [(2, .long (0 : Int64)), (0, .ref (pp 0)), (1, .int x1)]) hx hb dX3_mayShow_1 rfl hl (Nat.le_of_ble_eq_true rfl) rfl (fun ls hl => ?_)
  refine lv_iconst (v := 0) hx hb dX3_mayShow_2 li_0 ?_
  refine lv_istore (lv' := [(4, .int (0 : Int32)), (2, .long (0 : Int64)), (0, .ref (pp 0)), (1, .int x1)]) hx hb dX3_mayShow_3 hl (Nat.le_of_ble_eq_true rfl) rfl (fun ls hl => ?_)
  refine lv_iconst (v := 0) hx hb dX3_mayShow_5 li_0 ?_
  refine lv_istore (lv' := [(5, .int (0 : Int32)), (4, .int (0 : Int32)), (2, .long (0 : Int64)), (0, .ref (pp 0)), (1, .int x1)]) hx hb dX3_mayShow_6 hl (Nat.le_of_ble_eq_true rfl) rfl (fun ls hl => ?_)
  obtain ⟨z9, hz10, h⟩ := bd_ex h
  refine kX3_mayShow_8 K F pp σpp x1 (fun H locs ls hP hD hS hl => ?_) F (0 : Int64) (0 : Int32) (0 : Int32) _ _ _ hP hD hS (lv_sub hl [3, 4, 2, 1, 0] rfl) hz10
  refine lv_iload hx hb dX3_mayShow_118 (lv_at hl 3 rfl) ?_
  refine lv_iload_n hx hb dX3_mayShow_120 rfl (lv_at hl 1 rfl) ?_
  refine lv_icmp_ne (tgt := 137) hx hb dX3_mayShow_121 (by decide) (fun c11 => ?_) (fun c11 => ?_)
  · have h := if_f c11 h
    refine lv_iconst (v := 0) hx hb dX3_mayShow_137 li_0 ?_
    cases h
    exact rt_z K (Or.inl rfl) hP hD hS dX3_mayShow_138
  · have h := if_t c11 h
    refine lv_lload_n hx hb dX3_mayShow_124 rfl (lv_at hl 2 rfl) ?_
    refine lv_aload_n hx hb dX3_mayShow_125 rfl (lv_at hl 0 rfl) ?_
    refine va_get (D := G.1) (cl := vwCl) (tys := tysG G) (ci := 3) (v := .long (σpp.2.2.1 7)) (C := RX3) (T := TX3) (N := 8) hx hb hts iX3 hown hG.1 hP 0 rfl rfl 7 (Nat.le_of_ble_eq_true rfl) (hts _ tw_1_239) (fun _ h9 => h9) rfl dX3_mayShow_126 ?_
    refine W.lcmp hx hb dX3_mayShow_129 ?_
    refine lv_if_ne (tgt := 137) hx hb dX3_mayShow_130 (by decide) (fun c12 => ?_) (fun c12 => ?_)
    · have h := if_f c12 h
      refine lv_iconst (v := 0) hx hb dX3_mayShow_137 li_0 ?_
      cases h
      exact rt_z K (Or.inl rfl) hP hD hS dX3_mayShow_138
    · have h := if_t c12 h
      refine lv_iconst (v := 1) hx hb dX3_mayShow_133 li_1 ?_
      refine lv_goto (tgt := 138) hx hb dX3_mayShow_134 (by decide) ?_
      cases h
      exact rt_z K (Or.inr rfl) hP hD hS dX3_mayShow_138
def gbX3_unlikeRows_4 (F : Nat) (v1 : Int32) (rc : Int32 → Int32 → ST → Option (Int32 × Int32 × ST)) (v2 : Int32) (v3 : Int32) (σpp : ST) : Option (Int32 × Int32 × ST) :=
  if (10 : Int32) ≤ v3 then
    some (v2, v3, σpp)
  else
    (fX10_reach F (hgtI (1 : Int32).toNatClampNeg) v3 v1).bind fun r2 =>
    if v3 < 0 ∨ 10 ≤ v3.toNatClampNeg then none else
    nm (sA σpp 5 v3.toNatClampNeg r2) fun (s5 : ST) =>
    (fX10_reach F (hgtI (0 : Int32).toNatClampNeg) v3 v1).bind fun r7 =>
    nm (sA s5 6 v3.toNatClampNeg r7) fun (s9 : ST) =>
    if (s9.2.1 2 v3.toNatClampNeg) = (3 : Int32) then
      rc (v2 ||| (s9.2.1 6 v3.toNatClampNeg)) (v3 + 1) s9
    else
      if (s9.2.1 2 v3.toNatClampNeg) = (2 : Int32) then
        rc (v2 ||| (s9.2.1 5 v3.toNatClampNeg)) (v3 + 1) s9
      else
        rc (v2 ||| (0 : Int32)) (v3 + 1) s9
def gX3_unlikeRows_4 (F : Nat) (v1 : Int32) : Nat → Int32 → Int32 → ST → Option (Int32 × Int32 × ST)
  | 0, _, _, _ => none
  | n + 1, v2, v3, σpp => gbX3_unlikeRows_4 F v1 (gX3_unlikeRows_4 F v1 n) v2 v3 σpp
set_option maxHeartbeats 4000000 in
set_option maxRecDepth 100000 in
theorem kX3_unlikeRows_4 {p : Program} {l : Launch} {e : Env} {s : State} {m : MethodId} {args : Array Value} {below : List Frame} {meth : Method} {c : Code} {A : Nat → Prop} {Q : State → Prop} {G : GP} (K : Cx p s m meth c G cX3_unlikeRows RX3 5 (some .int) args A) (F : Nat) (pp : Nat → Nat) (v1 : Int32) {z : Int32 × Int32 × ST} (kk : ∀ (H : Heap) (locs : List Loc) (ls : Array Slot), va_P G.1 vwCl (List.flatten [wP G pp z.2.2]) H → va_D A (List.flatten [wP G pp z.2.2]) → va_S A s.heap H locs → lv_has ls 5 [(0, .ref (pp 0)), (1, .int v1), (2, .int z.1), (3, .int z.2.1)] → W p l e (RM 4) s m args below meth c H locs 0 0 Q (F0 m 90 ls [])) :
    ∀ (n : Nat) (v2 : Int32) (v3 : Int32) (σpp : ST) (H : Heap) (locs : List Loc) (ls : Array Slot), va_P G.1 vwCl (List.flatten [wP G pp σpp]) H → va_D A (List.flatten [wP G pp σpp]) → va_S A s.heap H locs → lv_has ls 5 [(0, .ref (pp 0)), (1, .int v1), (2, .int v2), (3, .int v3)] → gX3_unlikeRows_4 F v1 n v2 v3 σpp = some z → W p l e (RM 4) s m args below meth c H locs 0 0 Q (F0 m 4 ls []) := by
  obtain ⟨hx, hb, hr, hml, hts, hown, hlocks, hA, hG⟩ := id K
  intro n
  induction n with
  | zero =>
    intro v2 v3 σpp H locs ls hP hD hS hl h
    have h : none = some z := h
    cases h
  | succ n ih =>
    intro v2 v3 σpp H locs ls hP hD hS hl h
    have h : gbX3_unlikeRows_4 F v1 (gX3_unlikeRows_4 F v1 n) v2 v3 σpp = some z := h
    unfold gbX3_unlikeRows_4 at h
    refine lv_iload_n hx hb dX3_unlikeRows_4 rfl (lv_at hl 3 rfl) ?_
    refine lv_bipush (v := 10) hx hb dX3_unlikeRows_5 lb_10 ?_
    refine lv_icmp_ge (tgt := 90) hx hb dX3_unlikeRows_7 (by decide) (fun c1 => ?_) (fun c1 => ?_)
    · have h := if_t c1 h
      cases h
      exact kk _ _ _ hP hD hS (lv_sub hl [0, 1, 2, 3] rfl)
    · have h := if_f c1 h
      refine lv_aload_n hx hb dX3_unlikeRows_10 rfl (lv_at hl 0 rfl) ?_
      refine va_get (D := G.1) (cl := vwCl) (tys := tysG G) (ci := 3) (v := .ref (pp 6)) (C := RX3) (T := TX3) (N := 8) hx hb hts iX3 hown hG.1 hP 0 rfl rfl 5 (Nat.le_of_ble_eq_true rfl) (hts _ tw_1_237) (fun _ h9 => h9) rfl dX3_unlikeRows_11 ?_
      refine lv_iload_n hx hb dX3_unlikeRows_14 rfl (lv_at hl 3 rfl) ?_
      refine va_getsN hx hb hG.2.2.1.1 hS hown (va_Nw.use rfl (hG.2.1 _ tw_4_7)) (fun _ h9 => h9) dX3_unlikeRows_15 ?_
      refine lv_iconst (v := 1) hx hb dX3_unlikeRows_18 li_1 ?_
      refine va_ti (v := .int (hgtI (1 : Int32).toNatClampNeg)) hx hb hG.2.2.1.2 hS (vpi (by decide)) rfl dX3_unlikeRows_19 ?_
      refine lv_iload_n hx hb dX3_unlikeRows_20 rfl (lv_at hl 3 rfl) ?_
      refine lv_iload_n hx hb dX3_unlikeRows_21 rfl (lv_at hl 1 rfl) ?_
      obtain ⟨r2, hc3, h⟩ := bd_ex h
      refine sl_SN K (mX10_reach l G F (hgtI (1 : Int32).toNatClampNeg) v3 v1 hc3) tw_3_130 tw_1_1 tw_3_129 tw_4_8 cdX10_reach ⟨Nat.le_of_ble_eq_true rfl, Nat.le_of_ble_eq_true rfl⟩ hP hD hS [] rfl rfl rfl rfl hl.1 (Nat.le_of_ble_eq_true rfl) ⟨Nat.zero_le _, Nat.zero_le _⟩ dX3_unlikeRows_22 (fun H locs hP hD hS => ?_)
      have hP : va_P G.1 vwCl (List.flatten [wP G pp σpp]) H := hP
      have hD : va_D A (List.flatten [wP G pp σpp]) := hD
      obtain ⟨ck4, h⟩ := ck h
      obtain ⟨s5, e6, h⟩ := nm_ex h
      refine va_iast hx hb hG.1 hP hD hS 6 0 rfl rfl ck4 dX3_unlikeRows_25 (fun H locs hP hD hS => ?_)
      have hP : va_P G.1 vwCl (List.flatten [wP G pp s5]) H := by rw [e6]; exact hP
      have hD : va_D A (List.flatten [wP G pp s5]) := by rw [e6]; exact hD
      refine lv_aload_n hx hb dX3_unlikeRows_26 rfl (lv_at hl 0 rfl) ?_
      refine va_get (D := G.1) (cl := vwCl) (tys := tysG G) (ci := 3) (v := .ref (pp 7)) (C := RX3) (T := TX3) (N := 8) hx hb hts iX3 hown hG.1 hP 0 rfl rfl 6 (Nat.le_of_ble_eq_true rfl) (hts _ tw_1_238) (fun _ h9 => h9) rfl dX3_unlikeRows_27 ?_
      refine lv_iload_n hx hb dX3_unlikeRows_30 rfl (lv_at hl 3 rfl) ?_
      refine va_getsN hx hb hG.2.2.1.1 hS hown (va_Nw.use rfl (hG.2.1 _ tw_4_7)) (fun _ h9 => h9) dX3_unlikeRows_31 ?_
      refine lv_iconst (v := 0) hx hb dX3_unlikeRows_34 li_0 ?_
      refine va_ti (v := .int (hgtI (0 : Int32).toNatClampNeg)) hx hb hG.2.2.1.2 hS (vpi (by decide)) rfl dX3_unlikeRows_35 ?_
      refine lv_iload_n hx hb dX3_unlikeRows_36 rfl (lv_at hl 3 rfl) ?_
      refine lv_iload_n hx hb dX3_unlikeRows_37 rfl (lv_at hl 1 rfl) ?_
      obtain ⟨r7, hc8, h⟩ := bd_ex h
      refine sl_SN K (mX10_reach l G F (hgtI (0 : Int32).toNatClampNeg) v3 v1 hc8) tw_3_130 tw_1_1 tw_3_129 tw_4_8 cdX10_reach ⟨Nat.le_of_ble_eq_true rfl, Nat.le_of_ble_eq_true rfl⟩ hP hD hS [] rfl rfl rfl rfl hl.1 (Nat.le_of_ble_eq_true rfl) ⟨Nat.zero_le _, Nat.zero_le _⟩ dX3_unlikeRows_38 (fun H locs hP hD hS => ?_)
      have hP : va_P G.1 vwCl (List.flatten [wP G pp s5]) H := hP
      have hD : va_D A (List.flatten [wP G pp s5]) := hD
      obtain ⟨s9, e10, h⟩ := nm_ex h
      refine va_iast hx hb hG.1 hP hD hS 7 0 rfl rfl ck4 dX3_unlikeRows_41 (fun H locs hP hD hS => ?_)
      have hP : va_P G.1 vwCl (List.flatten [wP G pp s9]) H := by rw [e10]; exact hP
      have hD : va_D A (List.flatten [wP G pp s9]) := by rw [e10]; exact hD
      refine lv_iload_n hx hb dX3_unlikeRows_42 rfl (lv_at hl 2 rfl) ?_
      refine lv_aload_n hx hb dX3_unlikeRows_43 rfl (lv_at hl 0 rfl) ?_
      refine va_get (D := G.1) (cl := vwCl) (tys := tysG G) (ci := 3) (v := .ref (pp 3)) (C := RX3) (T := TX3) (N := 8) hx hb hts iX3 hown hG.1 hP 0 rfl rfl 2 (Nat.le_of_ble_eq_true rfl) (hts _ tw_1_234) (fun _ h9 => h9) rfl dX3_unlikeRows_44 ?_
      refine lv_iload_n hx hb dX3_unlikeRows_47 rfl (lv_at hl 3 rfl) ?_
      refine va_iald hx hb hG.1 hP 3 0 rfl rfl ck4 dX3_unlikeRows_48 ?_
      refine lv_iconst (v := 3) hx hb dX3_unlikeRows_49 li_3 ?_
      refine lv_icmp_ne (tgt := 62) hx hb dX3_unlikeRows_50 (by decide) (fun c11 => ?_) (fun c11 => ?_)
      · have h := if_f c11 h
        refine lv_aload_n hx hb dX3_unlikeRows_62 rfl (lv_at hl 0 rfl) ?_
        refine va_get (D := G.1) (cl := vwCl) (tys := tysG G) (ci := 3) (v := .ref (pp 3)) (C := RX3) (T := TX3) (N := 8) hx hb hts iX3 hown hG.1 hP 0 rfl rfl 2 (Nat.le_of_ble_eq_true rfl) (hts _ tw_1_234) (fun _ h9 => h9) rfl dX3_unlikeRows_63 ?_
        refine lv_iload_n hx hb dX3_unlikeRows_66 rfl (lv_at hl 3 rfl) ?_
        refine va_iald hx hb hG.1 hP 3 0 rfl rfl ck4 dX3_unlikeRows_67 ?_
        refine lv_iconst (v := 2) hx hb dX3_unlikeRows_68 li_2 ?_
        refine lv_icmp_ne (tgt := 81) hx hb dX3_unlikeRows_69 (by decide) (fun c12 => ?_) (fun c12 => ?_)
        · have h := if_f c12 h
          refine lv_iconst (v := 0) hx hb dX3_unlikeRows_81 li_0 ?_
          refine lv_ior hx hb dX3_unlikeRows_82 ?_
          refine lv_istore_n (lv' := [(2, .int (v2 ||| (0 : Int32))), (0, .ref (pp 0)), (1, .int v1), (3, .int v3)]) hx hb dX3_unlikeRows_83 rfl hl (Nat.le_of_ble_eq_true rfl) rfl (fun ls hl => ?_)
          refine lv_iinc (v := v3 + 1) (lv' := [(3, .int (v3 + 1)), (2, .int (v2 ||| (0 : Int32))), (0, .ref (pp 0)), (1, .int v1)]) hx hb dX3_unlikeRows_84 hl (k := 3) rfl (by rw [li_1]) (Nat.le_of_ble_eq_true rfl) rfl (fun ls hl => ?_)
          refine lv_goto (tgt := 4) hx hb dX3_unlikeRows_87 (by decide) ?_
          exact ih (v2 ||| (0 : Int32)) (v3 + 1) s9 _ _ _ hP hD hS (lv_sub hl [2, 3, 1, 0] rfl) h
        · have h := if_t c12 h
          refine lv_aload_n hx hb dX3_unlikeRows_72 rfl (lv_at hl 0 rfl) ?_
          refine va_get (D := G.1) (cl := vwCl) (tys := tysG G) (ci := 3) (v := .ref (pp 6)) (C := RX3) (T := TX3) (N := 8) hx hb hts iX3 hown hG.1 hP 0 rfl rfl 5 (Nat.le_of_ble_eq_true rfl) (hts _ tw_1_237) (fun _ h9 => h9) rfl dX3_unlikeRows_73 ?_
          refine lv_iload_n hx hb dX3_unlikeRows_76 rfl (lv_at hl 3 rfl) ?_
          refine va_iald hx hb hG.1 hP 6 0 rfl rfl ck4 dX3_unlikeRows_77 ?_
          refine lv_goto (tgt := 82) hx hb dX3_unlikeRows_78 (by decide) ?_
          refine lv_ior hx hb dX3_unlikeRows_82 ?_
          refine lv_istore_n (lv' := [(2, .int (v2 ||| (s9.2.1 5 v3.toNatClampNeg))), (0, .ref (pp 0)), (1, .int v1), (3, .int v3)]) hx hb dX3_unlikeRows_83 rfl hl (Nat.le_of_ble_eq_true rfl) rfl (fun ls hl => ?_)
          refine lv_iinc (v := v3 + 1) (lv' := [(3, .int (v3 + 1)), (2, .int (v2 ||| (s9.2.1 5 v3.toNatClampNeg))), (0, .ref (pp 0)), (1, .int v1)]) hx hb dX3_unlikeRows_84 hl (k := 3) rfl (by rw [li_1]) (Nat.le_of_ble_eq_true rfl) rfl (fun ls hl => ?_)
          refine lv_goto (tgt := 4) hx hb dX3_unlikeRows_87 (by decide) ?_
          exact ih (v2 ||| (s9.2.1 5 v3.toNatClampNeg)) (v3 + 1) s9 _ _ _ hP hD hS (lv_sub hl [2, 3, 1, 0] rfl) h
      · have h := if_t c11 h
        refine lv_aload_n hx hb dX3_unlikeRows_53 rfl (lv_at hl 0 rfl) ?_
        refine va_get (D := G.1) (cl := vwCl) (tys := tysG G) (ci := 3) (v := .ref (pp 7)) (C := RX3) (T := TX3) (N := 8) hx hb hts iX3 hown hG.1 hP 0 rfl rfl 6 (Nat.le_of_ble_eq_true rfl) (hts _ tw_1_238) (fun _ h9 => h9) rfl dX3_unlikeRows_54 ?_
        refine lv_iload_n hx hb dX3_unlikeRows_57 rfl (lv_at hl 3 rfl) ?_
        refine va_iald hx hb hG.1 hP 7 0 rfl rfl ck4 dX3_unlikeRows_58 ?_
        refine lv_goto (tgt := 82) hx hb dX3_unlikeRows_59 (by decide) ?_
        refine lv_ior hx hb dX3_unlikeRows_82 ?_
        refine lv_istore_n (lv' := [(2, .int (v2 ||| (s9.2.1 6 v3.toNatClampNeg))), (0, .ref (pp 0)), (1, .int v1), (3, .int v3)]) hx hb dX3_unlikeRows_83 rfl hl (Nat.le_of_ble_eq_true rfl) rfl (fun ls hl => ?_)
        refine lv_iinc (v := v3 + 1) (lv' := [(3, .int (v3 + 1)), (2, .int (v2 ||| (s9.2.1 6 v3.toNatClampNeg))), (0, .ref (pp 0)), (1, .int v1)]) hx hb dX3_unlikeRows_84 hl (k := 3) rfl (by rw [li_1]) (Nat.le_of_ble_eq_true rfl) rfl (fun ls hl => ?_)
        refine lv_goto (tgt := 4) hx hb dX3_unlikeRows_87 (by decide) ?_
        exact ih (v2 ||| (s9.2.1 6 v3.toNatClampNeg)) (v3 + 1) s9 _ _ _ hP hD hS (lv_sub hl [2, 3, 1, 0] rfl) h
def gbX3_unlikeRows_95 (F : Nat) (σpp : ST) (v1 : Int32) (v2 : Int32) (rc : Int32 → Int32 → Option (Int32 × Int32)) (v3 : Int32) (v4 : Int32) : Option (Int32 × Int32) :=
  if (1023 : Int32) < v4 then
    some (v3, v4)
  else
    if (v4 &&& (v2 ^^^ (-1 : Int32))) = 0 then
      (fX3_mayShow F σpp v4).bind fun r17 =>
      if r17 = 0 then
        rc v3 (v4 + 1)
      else
        rc (v3 + 1) (v4 + 1)
    else
      rc v3 (v4 + 1)
def gX3_unlikeRows_95 (F : Nat) (σpp : ST) (v1 : Int32) (v2 : Int32) : Nat → Int32 → Int32 → Option (Int32 × Int32)
  | 0, _, _ => none
  | n + 1, v3, v4 => gbX3_unlikeRows_95 F σpp v1 v2 (gX3_unlikeRows_95 F σpp v1 v2 n) v3 v4
set_option maxHeartbeats 4000000 in
set_option maxRecDepth 100000 in
theorem kX3_unlikeRows_95 {p : Program} {l : Launch} {e : Env} {s : State} {m : MethodId} {args : Array Value} {below : List Frame} {meth : Method} {c : Code} {A : Nat → Prop} {Q : State → Prop} {G : GP} (K : Cx p s m meth c G cX3_unlikeRows RX3 5 (some .int) args A) (F : Nat) (pp : Nat → Nat) (σpp : ST) (v1 : Int32) (v2 : Int32) {z : Int32 × Int32} (kk : ∀ (H : Heap) (locs : List Loc) (ls : Array Slot), va_P G.1 vwCl (List.flatten [wP G pp σpp]) H → va_D A (List.flatten [wP G pp σpp]) → va_S A s.heap H locs → lv_has ls 5 [(0, .ref (pp 0)), (1, .int v1), (2, .int v2), (3, .int z.1), (4, .int z.2)] → W p l e (RM 4) s m args below meth c H locs 0 0 Q (F0 m 130 ls [])) :
    ∀ (n : Nat) (v3 : Int32) (v4 : Int32) (H : Heap) (locs : List Loc) (ls : Array Slot), va_P G.1 vwCl (List.flatten [wP G pp σpp]) H → va_D A (List.flatten [wP G pp σpp]) → va_S A s.heap H locs → lv_has ls 5 [(0, .ref (pp 0)), (1, .int v1), (2, .int v2), (3, .int v3), (4, .int v4)] → gX3_unlikeRows_95 F σpp v1 v2 n v3 v4 = some z → W p l e (RM 4) s m args below meth c H locs 0 0 Q (F0 m 95 ls []) := by
  obtain ⟨hx, hb, hr, hml, hts, hown, hlocks, hA, hG⟩ := id K
  intro n
  induction n with
  | zero =>
    intro v3 v4 H locs ls hP hD hS hl h
    have h : none = some z := h
    cases h
  | succ n ih =>
    intro v3 v4 H locs ls hP hD hS hl h
    have h : gbX3_unlikeRows_95 F σpp v1 v2 (gX3_unlikeRows_95 F σpp v1 v2 n) v3 v4 = some z := h
    unfold gbX3_unlikeRows_95 at h
    refine lv_iload hx hb dX3_unlikeRows_95 (lv_at hl 4 rfl) ?_
    refine lv_sipush (v := 1023) hx hb dX3_unlikeRows_97 lh_1023 ?_
    refine lv_icmp_gt (tgt := 130) hx hb dX3_unlikeRows_100 (by decide) (fun c15 => ?_) (fun c15 => ?_)
    · have h := if_t c15 h
      cases h
      exact kk _ _ _ hP hD hS (lv_sub hl [0, 1, 2, 3, 4] rfl)
    · have h := if_f c15 h
      refine lv_iload hx hb dX3_unlikeRows_103 (lv_at hl 4 rfl) ?_
      refine lv_iload_n hx hb dX3_unlikeRows_105 rfl (lv_at hl 2 rfl) ?_
      refine lv_iconst (v := -1) hx hb dX3_unlikeRows_106 li_m1 ?_
      refine lv_ixor hx hb dX3_unlikeRows_107 ?_
      refine lv_iand hx hb dX3_unlikeRows_108 ?_
      refine lv_if_ne (tgt := 124) hx hb dX3_unlikeRows_109 (by decide) (fun c16 => ?_) (fun c16 => ?_)
      · have h := if_f c16 h
        refine lv_iinc (v := v4 + 1) (lv' := [(4, .int (v4 + 1)), (0, .ref (pp 0)), (1, .int v1), (2, .int v2), (3, .int v3)]) hx hb dX3_unlikeRows_124 hl (k := 4) rfl (by rw [li_1]) (Nat.le_of_ble_eq_true rfl) rfl (fun ls hl => ?_)
        refine lv_goto (tgt := 95) hx hb dX3_unlikeRows_127 (by decide) ?_
        exact ih v3 (v4 + 1) _ _ _ hP hD hS (lv_sub hl [1, 2, 3, 4, 0] rfl) h
      · have h := if_t c16 h
        refine lv_aload_n hx hb dX3_unlikeRows_112 rfl (lv_at hl 0 rfl) ?_
        refine lv_iload hx hb dX3_unlikeRows_113 (lv_at hl 4 rfl) ?_
        obtain ⟨r17, hc18, h⟩ := bd_ex h
        refine sl_V (q0 := 0) (ci := 3) (C := RX3) K (mX3_mayShow l G F pp σpp v4 hc18) tw_4_73 tw_1_10 tw_4_71 tw_4_72 tw_4_70 cdX3_mayShow ⟨Nat.le_of_ble_eq_true rfl, Nat.le_of_ble_eq_true rfl⟩ hP hD hS [0] rfl rfl rfl rfl rfl rfl rfl hl.1 (Nat.le_of_ble_eq_true rfl) ⟨Nat.zero_le _, Nat.zero_le _⟩ dX3_unlikeRows_115 (fun H locs hP hD hS => ?_)
        have hP : va_P G.1 vwCl (List.flatten [wP G pp σpp]) H := hP
        have hD : va_D A (List.flatten [wP G pp σpp]) := hD
        refine lv_if_eq (tgt := 124) hx hb dX3_unlikeRows_118 (by decide) (fun c19 => ?_) (fun c19 => ?_)
        · have h := if_t c19 h
          refine lv_iinc (v := v4 + 1) (lv' := [(4, .int (v4 + 1)), (0, .ref (pp 0)), (1, .int v1), (2, .int v2), (3, .int v3)]) hx hb dX3_unlikeRows_124 hl (k := 4) rfl (by rw [li_1]) (Nat.le_of_ble_eq_true rfl) rfl (fun ls hl => ?_)
          refine lv_goto (tgt := 95) hx hb dX3_unlikeRows_127 (by decide) ?_
          exact ih v3 (v4 + 1) _ _ _ hP hD hS (lv_sub hl [1, 2, 3, 4, 0] rfl) h
        · have h := if_f c19 h
          refine lv_iinc (v := v3 + 1) (lv' := [(3, .int (v3 + 1)), (0, .ref (pp 0)), (1, .int v1), (2, .int v2), (4, .int v4)]) hx hb dX3_unlikeRows_121 hl (k := 3) rfl (by rw [li_1]) (Nat.le_of_ble_eq_true rfl) rfl (fun ls hl => ?_)
          refine lv_iinc (v := v4 + 1) (lv' := [(4, .int (v4 + 1)), (3, .int (v3 + 1)), (0, .ref (pp 0)), (1, .int v1), (2, .int v2)]) hx hb dX3_unlikeRows_124 hl (k := 4) rfl (by rw [li_1]) (Nat.le_of_ble_eq_true rfl) rfl (fun ls hl => ?_)
          refine lv_goto (tgt := 95) hx hb dX3_unlikeRows_127 (by decide) ?_
          exact ih (v3 + 1) (v4 + 1) _ _ _ hP hD hS (lv_sub hl [2, 3, 4, 1, 0] rfl) h
def fX3_unlikeRows (F : Nat) (σpp : ST) (x1 : Int32) : Option (Int32 × ST) :=
  (gX3_unlikeRows_4 F x1 F (0 : Int32) (0 : Int32) σpp).bind fun z13 =>
    (gX3_unlikeRows_95 F z13.2.2 x1 z13.1 F (0 : Int32) (0 : Int32)).bind fun z20 =>
      some (z20.1, z13.2.2)
theorem cdX3_unlikeRows : CallD yX3_unlikeRows 1 := by decide +kernel
set_option maxHeartbeats 4000000 in
set_option maxRecDepth 100000 in
theorem mX3_unlikeRows (l : Launch) (G : GP) (F : Nat) (pp : Nat → Nat) (σpp : ST) (x1 : Int32) {r : Int32 × ST} (h : fX3_unlikeRows F σpp x1 = some r) : CC l G yX3_unlikeRows cX3_unlikeRows 5 (some .int) 4 [.ref (pp 0), .int x1] (List.flatten [wP G pp σpp]) (List.flatten [wP G pp r.2]) (some (.int r.1)) := by
  refine CC.of (by decide) (Nat.le_of_ble_eq_true rfl) ?_
  intro p e s m below meth c A K hP hD hS ls hl
  obtain ⟨hx, hb, hr, hml, hts, hown, hlocks, hA, hG⟩ := id K
  have hl : lv_has ls 5 [(0, .ref (pp 0)), (1, .int x1)] := hl
  unfold fX3_unlikeRows at h
  refine lv_iconst (v := 0) hx hb dX3_unlikeRows_0 li_0 ?_
  refine lv_istore_n (lv' := [(2, .int (0 : Int32)), (0, .ref (pp 0)), (1, .int x1)]) hx hb dX3_unlikeRows_1 rfl hl (Nat.le_of_ble_eq_true rfl) rfl (fun ls hl => ?_)
  refine lv_iconst (v := 0) hx hb dX3_unlikeRows_2 li_0 ?_
  refine lv_istore_n (lv' := [(3, .int (0 : Int32)), (2, .int (0 : Int32)), (0, .ref (pp 0)), (1, .int x1)]) hx hb dX3_unlikeRows_3 rfl hl (Nat.le_of_ble_eq_true rfl) rfl (fun ls hl => ?_)
  obtain ⟨z13, hz14, h⟩ := bd_ex h
  refine kX3_unlikeRows_4 K F pp x1 (fun H locs ls hP hD hS hl => ?_) F (0 : Int32) (0 : Int32) σpp _ _ _ hP hD hS (lv_sub hl [2, 3, 1, 0] rfl) hz14
  refine lv_iconst (v := 0) hx hb dX3_unlikeRows_90 li_0 ?_
  refine lv_istore_n (lv' := [(3, .int (0 : Int32)), (0, .ref (pp 0)), (1, .int x1), (2, .int z13.1)]) hx hb dX3_unlikeRows_91 rfl hl (Nat.le_of_ble_eq_true rfl) rfl (fun ls hl => ?_)
  refine lv_iconst (v := 0) hx hb dX3_unlikeRows_92 li_0 ?_
  refine lv_istore (lv' := [(4, .int (0 : Int32)), (3, .int (0 : Int32)), (0, .ref (pp 0)), (1, .int x1), (2, .int z13.1)]) hx hb dX3_unlikeRows_93 hl (Nat.le_of_ble_eq_true rfl) rfl (fun ls hl => ?_)
  obtain ⟨z20, hz21, h⟩ := bd_ex h
  refine kX3_unlikeRows_95 K F pp z13.2.2 x1 z13.1 (fun H locs ls hP hD hS hl => ?_) F (0 : Int32) (0 : Int32) _ _ _ hP hD hS (lv_sub hl [2, 3, 4, 1, 0] rfl) hz21
  refine lv_iload_n hx hb dX3_unlikeRows_130 rfl (lv_at hl 3 rfl) ?_
  cases h
  exact rt_i K hP hD hS dX3_unlikeRows_131
def gbX3_tellingMinute_6 (F : Nat)  (rc : Int32 → Int32 → Int32 → ST → Option (Int32 × Int32 × Int32 × ST)) (v1 : Int32) (v2 : Int32) (v3 : Int32) (σpp : ST) : Option (Int32 × Int32 × Int32 × ST) :=
  if (16 : Int32) ≤ v3 then
    some (v1, v2, v3, σpp)
  else
    (fX3_unlikeRows F σpp v3).bind fun r2 =>
    if r2.1 ≤ v2 then
      rc v1 v2 (v3 + 1) r2.2
    else
      rc v3 r2.1 (v3 + 1) r2.2
def gX3_tellingMinute_6 (F : Nat)  : Nat → Int32 → Int32 → Int32 → ST → Option (Int32 × Int32 × Int32 × ST)
  | 0, _, _, _, _ => none
  | n + 1, v1, v2, v3, σpp => gbX3_tellingMinute_6 F  (gX3_tellingMinute_6 F  n) v1 v2 v3 σpp
set_option maxHeartbeats 4000000 in
set_option maxRecDepth 100000 in
theorem kX3_tellingMinute_6 {p : Program} {l : Launch} {e : Env} {s : State} {m : MethodId} {args : Array Value} {below : List Frame} {meth : Method} {c : Code} {A : Nat → Prop} {Q : State → Prop} {G : GP} (K : Cx p s m meth c G cX3_tellingMinute RX3 5 (some .int) args A) (F : Nat) (pp : Nat → Nat)  {z : Int32 × Int32 × Int32 × ST} (kk : ∀ (H : Heap) (locs : List Loc) (ls : Array Slot), va_P G.1 vwCl (List.flatten [wP G pp z.2.2.2]) H → va_D A (List.flatten [wP G pp z.2.2.2]) → va_S A s.heap H locs → lv_has ls 5 [(0, .ref (pp 0)), (1, .int z.1), (2, .int z.2.1), (3, .int z.2.2.1)] → W p l e (RM 5) s m args below meth c H locs 0 0 Q (F0 m 36 ls [])) :
    ∀ (n : Nat) (v1 : Int32) (v2 : Int32) (v3 : Int32) (σpp : ST) (H : Heap) (locs : List Loc) (ls : Array Slot), va_P G.1 vwCl (List.flatten [wP G pp σpp]) H → va_D A (List.flatten [wP G pp σpp]) → va_S A s.heap H locs → lv_has ls 5 [(0, .ref (pp 0)), (1, .int v1), (2, .int v2), (3, .int v3)] → gX3_tellingMinute_6 F  n v1 v2 v3 σpp = some z → W p l e (RM 5) s m args below meth c H locs 0 0 Q (F0 m 6 ls []) := by
  obtain ⟨hx, hb, hr, hml, hts, hown, hlocks, hA, hG⟩ := id K
  intro n
  induction n with
  | zero =>
    intro v1 v2 v3 σpp H locs ls hP hD hS hl h
    have h : none = some z := h
    cases h
  | succ n ih =>
    intro v1 v2 v3 σpp H locs ls hP hD hS hl h
    have h : gbX3_tellingMinute_6 F  (gX3_tellingMinute_6 F  n) v1 v2 v3 σpp = some z := h
    unfold gbX3_tellingMinute_6 at h
    refine lv_iload_n hx hb dX3_tellingMinute_6 rfl (lv_at hl 3 rfl) ?_
    refine lv_bipush (v := 16) hx hb dX3_tellingMinute_7 lb_16 ?_
    refine lv_icmp_ge (tgt := 36) hx hb dX3_tellingMinute_9 (by decide) (fun c1 => ?_) (fun c1 => ?_)
    · have h := if_t c1 h
      cases h
      exact kk _ _ _ hP hD hS (lv_sub hl [0, 1, 2, 3] rfl)
    · have h := if_f c1 h
      refine lv_aload_n hx hb dX3_tellingMinute_12 rfl (lv_at hl 0 rfl) ?_
      refine lv_iload_n hx hb dX3_tellingMinute_13 rfl (lv_at hl 3 rfl) ?_
      obtain ⟨r2, hc3, h⟩ := bd_ex h
      refine sl_V (q0 := 0) (ci := 3) (C := RX3) K (mX3_unlikeRows l G F pp σpp v3 hc3) tw_4_69 tw_1_10 tw_4_67 tw_4_68 tw_4_66 cdX3_unlikeRows ⟨Nat.le_of_ble_eq_true rfl, Nat.le_of_ble_eq_true rfl⟩ hP hD hS [0] rfl rfl rfl rfl rfl rfl rfl hl.1 (Nat.le_of_ble_eq_true rfl) ⟨Nat.zero_le _, Nat.zero_le _⟩ dX3_tellingMinute_14 (fun H locs hP hD hS => ?_)
      have hP : va_P G.1 vwCl (List.flatten [wP G pp r2.2]) H := hP
      have hD : va_D A (List.flatten [wP G pp r2.2]) := hD
      refine lv_istore (lv' := [(4, .int r2.1), (0, .ref (pp 0)), (1, .int v1), (2, .int v2), (3, .int v3)]) hx hb dX3_tellingMinute_17 hl (Nat.le_of_ble_eq_true rfl) rfl (fun ls hl => ?_)
      refine lv_iload hx hb dX3_tellingMinute_19 (lv_at hl 0 rfl) ?_
      refine lv_iload_n hx hb dX3_tellingMinute_21 rfl (lv_at hl 3 rfl) ?_
      refine lv_icmp_le (tgt := 30) hx hb dX3_tellingMinute_22 (by decide) (fun c4 => ?_) (fun c4 => ?_)
      · have h := if_t c4 h
        refine lv_iinc (v := v3 + 1) (lv' := [(3, .int (v3 + 1)), (4, .int r2.1), (0, .ref (pp 0)), (1, .int v1), (2, .int v2)]) hx hb dX3_tellingMinute_30 hl (k := 4) rfl (by rw [li_1]) (Nat.le_of_ble_eq_true rfl) rfl (fun ls hl => ?_)
        refine lv_goto (tgt := 6) hx hb dX3_tellingMinute_33 (by decide) ?_
        exact ih v1 v2 (v3 + 1) r2.2 _ _ _ hP hD hS (lv_sub hl [2, 3, 4, 0] rfl) h
      · have h := if_f c4 h
        refine lv_iload hx hb dX3_tellingMinute_25 (lv_at hl 0 rfl) ?_
        refine lv_istore_n (lv' := [(2, .int r2.1), (4, .int r2.1), (0, .ref (pp 0)), (1, .int v1), (3, .int v3)]) hx hb dX3_tellingMinute_27 rfl hl (Nat.le_of_ble_eq_true rfl) rfl (fun ls hl => ?_)
        refine lv_iload_n hx hb dX3_tellingMinute_28 rfl (lv_at hl 4 rfl) ?_
        refine lv_istore_n (lv' := [(1, .int v3), (2, .int r2.1), (4, .int r2.1), (0, .ref (pp 0)), (3, .int v3)]) hx hb dX3_tellingMinute_29 rfl hl (Nat.le_of_ble_eq_true rfl) rfl (fun ls hl => ?_)
        refine lv_iinc (v := v3 + 1) (lv' := [(3, .int (v3 + 1)), (1, .int v3), (2, .int r2.1), (4, .int r2.1), (0, .ref (pp 0))]) hx hb dX3_tellingMinute_30 hl (k := 4) rfl (by rw [li_1]) (Nat.le_of_ble_eq_true rfl) rfl (fun ls hl => ?_)
        refine lv_goto (tgt := 6) hx hb dX3_tellingMinute_33 (by decide) ?_
        exact ih v3 r2.1 (v3 + 1) r2.2 _ _ _ hP hD hS (lv_sub hl [4, 1, 2, 0] rfl) h
def fX3_tellingMinute (F : Nat) (σpp : ST)  : Option (Int32 × ST) :=
  (gX3_tellingMinute_6 F  F (0 : Int32) (0 : Int32) (0 : Int32) σpp).bind fun z5 =>
    some (z5.1, z5.2.2.2)
theorem cdX3_tellingMinute : CallD yX3_tellingMinute 0 := by decide +kernel
set_option maxHeartbeats 4000000 in
set_option maxRecDepth 100000 in
theorem mX3_tellingMinute (l : Launch) (G : GP) (F : Nat) (pp : Nat → Nat) (σpp : ST)  {r : Int32 × ST} (h : fX3_tellingMinute F σpp  = some r) : CC l G yX3_tellingMinute cX3_tellingMinute 5 (some .int) 5 [.ref (pp 0)] (List.flatten [wP G pp σpp]) (List.flatten [wP G pp r.2]) (some (.int r.1)) := by
  refine CC.of (by decide) (Nat.le_of_ble_eq_true rfl) ?_
  intro p e s m below meth c A K hP hD hS ls hl
  obtain ⟨hx, hb, hr, hml, hts, hown, hlocks, hA, hG⟩ := id K
  have hl : lv_has ls 5 [(0, .ref (pp 0))] := hl
  unfold fX3_tellingMinute at h
  refine lv_iconst (v := 0) hx hb dX3_tellingMinute_0 li_0 ?_
  refine lv_istore_n (lv' := [(1, .int (0 : Int32)), (0, .ref (pp 0))]) hx hb dX3_tellingMinute_1 rfl hl (Nat.le_of_ble_eq_true rfl) rfl (fun ls hl => ?_)
  refine lv_iconst (v := 0) hx hb dX3_tellingMinute_2 li_0 ?_
  refine lv_istore_n (lv' := [(2, .int (0 : Int32)), (1, .int (0 : Int32)), (0, .ref (pp 0))]) hx hb dX3_tellingMinute_3 rfl hl (Nat.le_of_ble_eq_true rfl) rfl (fun ls hl => ?_)
  refine lv_iconst (v := 0) hx hb dX3_tellingMinute_4 li_0 ?_
  refine lv_istore_n (lv' := [(3, .int (0 : Int32)), (2, .int (0 : Int32)), (1, .int (0 : Int32)), (0, .ref (pp 0))]) hx hb dX3_tellingMinute_5 rfl hl (Nat.le_of_ble_eq_true rfl) rfl (fun ls hl => ?_)
  obtain ⟨z5, hz6, h⟩ := bd_ex h
  refine kX3_tellingMinute_6 K F pp  (fun H locs ls hP hD hS hl => ?_) F (0 : Int32) (0 : Int32) (0 : Int32) σpp _ _ _ hP hD hS (lv_sub hl [3, 2, 1, 0] rfl) hz6
  refine lv_iload_n hx hb dX3_tellingMinute_36 rfl (lv_at hl 1 rfl) ?_
  cases h
  exact rt_i K hP hD hS dX3_tellingMinute_37
