def fJ0_coder_7d493 (F : Nat)   : Option (Int32) :=
  some (0 : Int32)
theorem cdJ0_coder_7d493 : CallD yJ0_coder_7d493 0 := by decide +kernel
set_option maxHeartbeats 4000000 in
set_option maxRecDepth 100000 in
theorem mJ0_coder_7d493 (l : Launch) (G : GP) (F : Nat)    {r : Int32} (h : fJ0_coder_7d493 F   = some r) : CC l G yJ0_coder_7d493 cJ0_coder_7d493 1 (some .byte) 1 [.ref (G.2.2 2)] (List.flatten ([] : List va_W)) (List.flatten ([] : List va_W)) (some (.int r)) := by
  refine CC.of (by decide) (Nat.le_of_ble_eq_true rfl) ?_
  intro p e s m below meth c A K hP hD hS ls hl
  obtain ⟨hx, hb, hr, hml, hts, hown, hlocks, hA, hG⟩ := id K
  have hl : lv_has ls 1 [(0, .ref (G.2.2 2))] := hl
  unfold fJ0_coder_7d493 at h
  refine va_gets hx hb hG.2.2.2.2.1 hS hown (hts _ tw_2_115) (fun _ h9 => h9) dJ0_coder_7d493_0 ?_
  refine lv_if_eq (tgt := 13) hx hb dJ0_coder_7d493_3 (by decide) (fun c9 => absurd c9 (by decide)) (fun c9 => ?_)
  refine lv_aload_n hx hb dJ0_coder_7d493_6 rfl (lv_at hl 0 rfl) ?_
  refine vk_getf hx hb ((hG.2.2.2.2.2.1.1 0 (Nat.lt_succ_self 0)).2.1) hS hown (hts _ tw_5_207) (fun _ h9 => h9) dJ0_coder_7d493_7 ?_
  refine lv_goto (tgt := 14) hx hb dJ0_coder_7d493_10 (by decide) ?_
  cases h
  exact rt_n K rfl hP hD hS dJ0_coder_7d493_14
def fJ0_isLatin1_aae02 (F : Nat)   : Option (Int32) :=
  some (1 : Int32)
theorem cdJ0_isLatin1_aae02 : CallD yJ0_isLatin1_aae02 0 := by decide +kernel
set_option maxHeartbeats 4000000 in
set_option maxRecDepth 100000 in
theorem mJ0_isLatin1_aae02 (l : Launch) (G : GP) (F : Nat)    {r : Int32} (h : fJ0_isLatin1_aae02 F   = some r) : CC l G yJ0_isLatin1_aae02 cJ0_isLatin1_aae02 1 (some .boolean) 1 [.ref (G.2.2 2)] (List.flatten ([] : List va_W)) (List.flatten ([] : List va_W)) (some (.int r)) := by
  refine CC.of (by decide) (Nat.le_of_ble_eq_true rfl) ?_
  intro p e s m below meth c A K hP hD hS ls hl
  obtain ⟨hx, hb, hr, hml, hts, hown, hlocks, hA, hG⟩ := id K
  have hl : lv_has ls 1 [(0, .ref (G.2.2 2))] := hl
  unfold fJ0_isLatin1_aae02 at h
  refine va_gets hx hb hG.2.2.2.2.1 hS hown (hts _ tw_2_115) (fun _ h9 => h9) dJ0_isLatin1_aae02_0 ?_
  refine lv_if_eq (tgt := 17) hx hb dJ0_isLatin1_aae02_3 (by decide) (fun c9 => absurd c9 (by decide)) (fun c9 => ?_)
  refine lv_aload_n hx hb dJ0_isLatin1_aae02_6 rfl (lv_at hl 0 rfl) ?_
  refine vk_getf hx hb ((hG.2.2.2.2.2.1.1 0 (Nat.lt_succ_self 0)).2.1) hS hown (hts _ tw_5_207) (fun _ h9 => h9) dJ0_isLatin1_aae02_7 ?_
  refine lv_if_ne (tgt := 17) hx hb dJ0_isLatin1_aae02_10 (by decide) (fun c9 => absurd c9 (by decide)) (fun c9 => ?_)
  refine lv_iconst (v := 1) hx hb dJ0_isLatin1_aae02_13 li_1 ?_
  refine lv_goto (tgt := 18) hx hb dJ0_isLatin1_aae02_14 (by decide) ?_
  cases h
  exact rt_z K (Or.inr rfl) hP hD hS dJ0_isLatin1_aae02_18
def fJ0_length_8abf5 (F : Nat)   : Option (Int32) :=
  (fJ0_coder_7d493 F ).bind fun r1 =>
  some ((6 : Int32) >>> (r1 &&& 31))
theorem cdJ0_length_8abf5 : CallD yJ0_length_8abf5 0 := by decide +kernel
set_option maxHeartbeats 4000000 in
set_option maxRecDepth 100000 in
theorem mJ0_length_8abf5 (l : Launch) (G : GP) (F : Nat)    {r : Int32} (h : fJ0_length_8abf5 F   = some r) : CC l G yJ0_length_8abf5 cJ0_length_8abf5 1 (some .int) 2 [.ref (G.2.2 2)] (List.flatten ([] : List va_W)) (List.flatten ([] : List va_W)) (some (.int r)) := by
  refine CC.of (by decide) (Nat.le_of_ble_eq_true rfl) ?_
  intro p e s m below meth c A K hP hD hS ls hl
  obtain ⟨hx, hb, hr, hml, hts, hown, hlocks, hA, hG⟩ := id K
  have hl : lv_has ls 1 [(0, .ref (G.2.2 2))] := hl
  unfold fJ0_length_8abf5 at h
  refine lv_aload_n hx hb dJ0_length_8abf5_0 rfl (lv_at hl 0 rfl) ?_
  refine vk_getf hx hb ((hG.2.2.2.2.2.1.1 0 (Nat.lt_succ_self 0)).2.2.1) hS hown (hts _ tw_5_208) (fun _ h9 => h9) dJ0_length_8abf5_1 ?_
  refine va_tlen (v := 6) hx hb (hG.2.2.2.2.2.1.1 0 (by decide)).2.2.2 hS (by decide) dJ0_length_8abf5_4 ?_
  refine lv_aload_n hx hb dJ0_length_8abf5_5 rfl (lv_at hl 0 rfl) ?_
  obtain ⟨r1, hc2, h⟩ := bd_ex h
  refine sl_R (C := RJ0) K (mJ0_coder_7d493 l G F hc2) tw_2_124 tw_1_13 tw_2_122 tw_2_123 tw_2_121 cdJ0_coder_7d493 ⟨Nat.le_of_ble_eq_true rfl, Nat.le_of_ble_eq_true rfl⟩ hP hD hS [] rfl rfl rfl (vk_recv (adK := fun _ => G.2.2 2) (i := 0) hG.2.2.2.2.2.1 (Nat.lt_succ_self 0) hS) rfl hl.1 (Nat.le_of_ble_eq_true rfl) ⟨Nat.zero_le _, Nat.zero_le _⟩ dJ0_length_8abf5_6 (fun H locs hP hD hS => ?_)
  have hP : va_P G.1 vwCl (List.flatten ([] : List va_W)) H := hP
  have hD : va_D A (List.flatten ([] : List va_W)) := hD
  refine lv_ishr hx hb dJ0_length_8abf5_9 ?_
  cases h
  exact rt_i K hP hD hS dJ0_length_8abf5_10
def fJ1_canEncode_9a6ad (F : Nat)  (x1 : Int32) : Option (Int32) :=
  if x1 < 0 then
    some (0 : Int32)
  else
    if (255 : Int32) < x1 then
      some (0 : Int32)
    else
      some (1 : Int32)
theorem cdJ1_canEncode_9a6ad : CallD yJ1_canEncode_9a6ad 1 := by decide +kernel
set_option maxHeartbeats 4000000 in
set_option maxRecDepth 100000 in
theorem mJ1_canEncode_9a6ad (l : Launch) (G : GP) (F : Nat)   (x1 : Int32) {r : Int32} (h : fJ1_canEncode_9a6ad F  x1 = some r) : CC l G yJ1_canEncode_9a6ad cJ1_canEncode_9a6ad 1 (some .boolean) 1 [.int x1] (List.flatten ([] : List va_W)) (List.flatten ([] : List va_W)) (some (.int r)) := by
  refine CC.of (by decide) (Nat.le_of_ble_eq_true rfl) ?_
  intro p e s m below meth c A K hP hD hS ls hl
  obtain ⟨hx, hb, hr, hml, hts, hown, hlocks, hA, hG⟩ := id K
  have hl : lv_has ls 1 [(0, .int x1)] := hl
  unfold fJ1_canEncode_9a6ad at h
  refine lv_iload_n hx hb dJ1_canEncode_9a6ad_0 rfl (lv_at hl 0 rfl) ?_
  refine lv_if_lt (tgt := 15) hx hb dJ1_canEncode_9a6ad_1 (by decide) (fun c1 => ?_) (fun c1 => ?_)
  · have h := if_t c1 h
    refine lv_iconst (v := 0) hx hb dJ1_canEncode_9a6ad_15 li_0 ?_
    cases h
    exact rt_z K (Or.inl rfl) hP hD hS dJ1_canEncode_9a6ad_16
  · have h := if_f c1 h
    refine lv_iload_n hx hb dJ1_canEncode_9a6ad_4 rfl (lv_at hl 0 rfl) ?_
    refine lv_sipush (v := 255) hx hb dJ1_canEncode_9a6ad_5 lh_255 ?_
    refine lv_icmp_gt (tgt := 15) hx hb dJ1_canEncode_9a6ad_8 (by decide) (fun c2 => ?_) (fun c2 => ?_)
    · have h := if_t c2 h
      refine lv_iconst (v := 0) hx hb dJ1_canEncode_9a6ad_15 li_0 ?_
      cases h
      exact rt_z K (Or.inl rfl) hP hD hS dJ1_canEncode_9a6ad_16
    · have h := if_f c2 h
      refine lv_iconst (v := 1) hx hb dJ1_canEncode_9a6ad_11 li_1 ?_
      refine lv_goto (tgt := 16) hx hb dJ1_canEncode_9a6ad_12 (by decide) ?_
      cases h
      exact rt_z K (Or.inr rfl) hP hD hS dJ1_canEncode_9a6ad_16
def gbJ1_indexOfChar_4cfef_7 (F : Nat) (v1 : Int32) (v2 : Int32) (v3 : Int32) (v4 : Int32) (rc : Int32 → Option (Nat × Int32)) (v5 : Int32) : Option (Nat × Int32) :=
  if v3 ≤ v5 then
    some ((31 : Nat), v5)
  else
    if v5 < 0 ∨ 6 ≤ v5.toNatClampNeg then none else
    if ((kindB.getD 0 []).getD v5.toNatClampNeg 0) = v4 then
      some ((22 : Nat), v5)
    else
      rc (v5 + 1)
def gJ1_indexOfChar_4cfef_7 (F : Nat) (v1 : Int32) (v2 : Int32) (v3 : Int32) (v4 : Int32) : Nat → Int32 → Option (Nat × Int32)
  | 0, _ => none
  | n + 1, v5 => gbJ1_indexOfChar_4cfef_7 F v1 v2 v3 v4 (gJ1_indexOfChar_4cfef_7 F v1 v2 v3 v4 n) v5
set_option maxHeartbeats 4000000 in
set_option maxRecDepth 100000 in
theorem kJ1_indexOfChar_4cfef_7 {p : Program} {l : Launch} {e : Env} {s : State} {m : MethodId} {args : Array Value} {below : List Frame} {meth : Method} {c : Code} {A : Nat → Prop} {Q : State → Prop} {G : GP} (K : Cx p s m meth c G cJ1_indexOfChar_4cfef RJ1 6 (some .int) args A) (F : Nat)  (v1 : Int32) (v2 : Int32) (v3 : Int32) (v4 : Int32) {z : Nat × Int32} (kk22 : z.1 = 22 → ∀ (H : Heap) (locs : List Loc) (ls : Array Slot), va_P G.1 vwCl (List.flatten ([] : List va_W)) H → va_D A (List.flatten ([] : List va_W)) → va_S A s.heap H locs → lv_has ls 6 [(0, .ref (G.2.2 3)), (1, .int v1), (2, .int v2), (3, .int v3), (4, .int v4), (5, .int z.2)] → W p l e (RM 1) s m args below meth c H locs 0 0 Q (F0 m 22 ls [])) (kk31 : z.1 = 31 → ∀ (H : Heap) (locs : List Loc) (ls : Array Slot), va_P G.1 vwCl (List.flatten ([] : List va_W)) H → va_D A (List.flatten ([] : List va_W)) → va_S A s.heap H locs → lv_has ls 6 [(0, .ref (G.2.2 3)), (1, .int v1), (2, .int v2), (3, .int v3), (4, .int v4), (5, .int z.2)] → W p l e (RM 1) s m args below meth c H locs 0 0 Q (F0 m 31 ls [])) :
    ∀ (n : Nat) (v5 : Int32) (H : Heap) (locs : List Loc) (ls : Array Slot), va_P G.1 vwCl (List.flatten ([] : List va_W)) H → va_D A (List.flatten ([] : List va_W)) → va_S A s.heap H locs → lv_has ls 6 [(0, .ref (G.2.2 3)), (1, .int v1), (2, .int v2), (3, .int v3), (4, .int v4), (5, .int v5)] → gJ1_indexOfChar_4cfef_7 F v1 v2 v3 v4 n v5 = some z → W p l e (RM 1) s m args below meth c H locs 0 0 Q (F0 m 7 ls []) := by
  obtain ⟨hx, hb, hr, hml, hts, hown, hlocks, hA, hG⟩ := id K
  intro n
  induction n with
  | zero =>
    intro v5 H locs ls hP hD hS hl h
    have h : none = some z := h
    cases h
  | succ n ih =>
    intro v5 H locs ls hP hD hS hl h
    have h : gbJ1_indexOfChar_4cfef_7 F v1 v2 v3 v4 (gJ1_indexOfChar_4cfef_7 F v1 v2 v3 v4 n) v5 = some z := h
    unfold gbJ1_indexOfChar_4cfef_7 at h
    refine lv_iload hx hb dJ1_indexOfChar_4cfef_7 (lv_at hl 5 rfl) ?_
    refine lv_iload_n hx hb dJ1_indexOfChar_4cfef_9 rfl (lv_at hl 3 rfl) ?_
    refine lv_icmp_ge (tgt := 31) hx hb dJ1_indexOfChar_4cfef_10 (by decide) (fun c1 => ?_) (fun c1 => ?_)
    · have h := if_t c1 h
      cases h
      exact kk31 rfl _ _ _ hP hD hS (lv_sub hl [0, 1, 2, 3, 4, 5] rfl)
    · have h := if_f c1 h
      refine lv_aload_n hx hb dJ1_indexOfChar_4cfef_13 rfl (lv_at hl 0 rfl) ?_
      refine lv_iload hx hb dJ1_indexOfChar_4cfef_14 (lv_at hl 5 rfl) ?_
      obtain ⟨ck2, h⟩ := ck h
      refine va_tb (v := .int ((kindB.getD 0 []).getD v5.toNatClampNeg 0)) hx hb (hG.2.2.2.2.2.1.1 0 (by decide)).2.2.2 hS ck2 rfl dJ1_indexOfChar_4cfef_16 ?_
      refine lv_iload hx hb dJ1_indexOfChar_4cfef_17 (lv_at hl 4 rfl) ?_
      refine lv_icmp_ne (tgt := 25) hx hb dJ1_indexOfChar_4cfef_19 (by decide) (fun c3 => ?_) (fun c3 => ?_)
      · have h := if_f c3 h
        refine lv_iinc (v := v5 + 1) (lv' := [(5, .int (v5 + 1)), (0, .ref (G.2.2 3)), (1, .int v1), (2, .int v2), (3, .int v3), (4, .int v4)]) hx hb dJ1_indexOfChar_4cfef_25 hl (k := 5) rfl (by rw [li_1]) (Nat.le_of_ble_eq_true rfl) rfl (fun ls hl => ?_)
        refine lv_goto (tgt := 7) hx hb dJ1_indexOfChar_4cfef_28 (by decide) ?_
        exact ih (v5 + 1) _ _ _ hP hD hS (lv_sub hl [1, 2, 3, 4, 5, 0] rfl) h
      · have h := if_t c3 h
        cases h
        exact kk22 rfl _ _ _ hP hD hS (lv_sub hl [0, 1, 2, 3, 4, 5] rfl)
def fJ1_indexOfChar_4cfef (F : Nat)  (x2 : Int32) (x3 : Int32) (x4 : Int32) : Option (Int32) :=
  (gJ1_indexOfChar_4cfef_7 F x2 x3 x4 x2.toInt8.toInt32 F x3).bind fun z4 =>
    if z4.1 = 22 then
      some z4.2
    else
      some (-1 : Int32)
theorem cdJ1_indexOfChar_4cfef : CallD yJ1_indexOfChar_4cfef 4 := by decide +kernel
set_option maxHeartbeats 4000000 in
set_option maxRecDepth 100000 in
theorem mJ1_indexOfChar_4cfef (l : Launch) (G : GP) (F : Nat)   (x2 : Int32) (x3 : Int32) (x4 : Int32) {r : Int32} (h : fJ1_indexOfChar_4cfef F  x2 x3 x4 = some r) : CC l G yJ1_indexOfChar_4cfef cJ1_indexOfChar_4cfef 6 (some .int) 1 [.ref (G.2.2 3), .int x2, .int x3, .int x4] (List.flatten ([] : List va_W)) (List.flatten ([] : List va_W)) (some (.int r)) := by
  refine CC.of (by decide) (Nat.le_of_ble_eq_true rfl) ?_
  intro p e s m below meth c A K hP hD hS ls hl
  obtain ⟨hx, hb, hr, hml, hts, hown, hlocks, hA, hG⟩ := id K
  have hl : lv_has ls 6 [(0, .ref (G.2.2 3)), (1, .int x2), (2, .int x3), (3, .int x4)] := hl
  unfold fJ1_indexOfChar_4cfef at h
  refine lv_iload_n hx hb dJ1_indexOfChar_4cfef_0 rfl (lv_at hl 1 rfl) ?_
  refine lv_i2b (v := x2.toInt8.toInt32) hx hb dJ1_indexOfChar_4cfef_1 rfl ?_
  refine lv_istore (lv' := [(4, .int x2.toInt8.toInt32), (0, .ref (G.2.2 3)), (1, .int x2), (2, .int x3), (3, .int x4)]) hx hb dJ1_indexOfChar_4cfef_2 hl (Nat.le_of_ble_eq_true rfl) rfl (fun ls hl => ?_)
  refine lv_iload_n hx hb dJ1_indexOfChar_4cfef_4 rfl (lv_at hl 3 rfl) ?_
  refine lv_istore (lv' := [(5, .int x3), (4, .int x2.toInt8.toInt32), (0, .ref (G.2.2 3)), (1, .int x2), (2, .int x3), (3, .int x4)]) hx hb dJ1_indexOfChar_4cfef_5 hl (Nat.le_of_ble_eq_true rfl) rfl (fun ls hl => ?_)
  obtain ⟨z4, hz5, h⟩ := bd_ex h
  refine kJ1_indexOfChar_4cfef_7 K F  x2 x3 x4 x2.toInt8.toInt32 (fun ht H locs ls hP hD hS hl => ?_) (fun ht H locs ls hP hD hS hl => ?_) F x3 _ _ _ hP hD hS (lv_sub hl [2, 3, 4, 5, 1, 0] rfl) hz5
  · have h := if_t ht h
    refine lv_iload hx hb dJ1_indexOfChar_4cfef_22 (lv_at hl 5 rfl) ?_
    cases h
    exact rt_i K hP hD hS dJ1_indexOfChar_4cfef_24
  · have h := if_f (by rw [ht]; decide) h
    refine lv_iconst (v := -1) hx hb dJ1_indexOfChar_4cfef_31 li_m1 ?_
    cases h
    exact rt_i K hP hD hS dJ1_indexOfChar_4cfef_32
def fJ1_indexOf_4cfef (F : Nat)  (x2 : Int32) (x3 : Int32) (x4 : Int32) : Option (Int32) :=
  (fJ1_canEncode_9a6ad F x2).bind fun r1 =>
  if r1 = 0 then
    some (-1 : Int32)
  else
    if (if x3 < (0 : Int32) then (0 : Int32) else x3) < (if (6 : Int32) < x4 then (6 : Int32) else x4) then
      (fJ1_indexOfChar_4cfef F x2 (if x3 < (0 : Int32) then (0 : Int32) else x3) (if (6 : Int32) < x4 then (6 : Int32) else x4)).bind fun r5 =>
      some r5
    else
      some (-1 : Int32)
theorem cdJ1_indexOf_4cfef : CallD yJ1_indexOf_4cfef 4 := by decide +kernel
set_option maxHeartbeats 4000000 in
set_option maxRecDepth 100000 in
theorem mJ1_indexOf_4cfef (l : Launch) (G : GP) (F : Nat)   (x2 : Int32) (x3 : Int32) (x4 : Int32) {r : Int32} (h : fJ1_indexOf_4cfef F  x2 x3 x4 = some r) : CC l G yJ1_indexOf_4cfef cJ1_indexOf_4cfef 4 (some .int) 2 [.ref (G.2.2 3), .int x2, .int x3, .int x4] (List.flatten ([] : List va_W)) (List.flatten ([] : List va_W)) (some (.int r)) := by
  refine CC.of (by decide) (Nat.le_of_ble_eq_true rfl) ?_
  intro p e s m below meth c A K hP hD hS ls hl
  obtain ⟨hx, hb, hr, hml, hts, hown, hlocks, hA, hG⟩ := id K
  have hl : lv_has ls 4 [(0, .ref (G.2.2 3)), (1, .int x2), (2, .int x3), (3, .int x4)] := hl
  unfold fJ1_indexOf_4cfef at h
  refine lv_iload_n hx hb dJ1_indexOf_4cfef_0 rfl (lv_at hl 1 rfl) ?_
  obtain ⟨r1, hc2, h⟩ := bd_ex h
  refine sl_S K (mJ1_canEncode_9a6ad l G F x2 hc2) tw_2_130 tw_1_14 tw_2_129 tw_2_128 cdJ1_canEncode_9a6ad ⟨Nat.le_of_ble_eq_true rfl, Nat.le_of_ble_eq_true rfl⟩ hP hD hS [] rfl rfl rfl rfl hl.1 (Nat.le_of_ble_eq_true rfl) ⟨Nat.zero_le _, Nat.zero_le _⟩ dJ1_indexOf_4cfef_1 (fun H locs hP hD hS => ?_)
  have hP : va_P G.1 vwCl (List.flatten ([] : List va_W)) H := hP
  have hD : va_D A (List.flatten ([] : List va_W)) := hD
  refine lv_if_ne (tgt := 9) hx hb dJ1_indexOf_4cfef_4 (by decide) (fun c3 => ?_) (fun c3 => ?_)
  · have h := if_f c3 h
    refine lv_iload_n hx hb dJ1_indexOf_4cfef_9 rfl (lv_at hl 2 rfl) ?_
    refine lv_iconst (v := 0) hx hb dJ1_indexOf_4cfef_10 li_0 ?_
    refine va_mmax hx hb (hml.trans hl.1.symm) hown (hts _ tw_2_131) (hts _ tw_2_132) (hts _ tw_1_15) (hts _ tw_2_133) (Nat.le_of_ble_eq_true rfl) (Nat.le_of_ble_eq_true rfl) (Nat.zero_le _) (Nat.zero_le _) dJ1_indexOf_4cfef_11 ?_
    refine lv_istore_n (lv' := [(2, .int (if x3 < (0 : Int32) then (0 : Int32) else x3)), (0, .ref (G.2.2 3)), (1, .int x2), (3, .int x4)]) hx hb dJ1_indexOf_4cfef_14 rfl hl (Nat.le_of_ble_eq_true rfl) rfl (fun ls hl => ?_)
    refine lv_iload_n hx hb dJ1_indexOf_4cfef_15 rfl (lv_at hl 3 rfl) ?_
    refine lv_aload_n hx hb dJ1_indexOf_4cfef_16 rfl (lv_at hl 1 rfl) ?_
    refine va_tlen (v := 6) hx hb (hG.2.2.2.2.2.1.1 0 (by decide)).2.2.2 hS (by decide) dJ1_indexOf_4cfef_17 ?_
    refine va_mmin hx hb (hml.trans hl.1.symm) hown (hts _ tw_2_134) (hts _ tw_2_135) (hts _ tw_1_15) (hts _ tw_2_136) (Nat.le_of_ble_eq_true rfl) (Nat.le_of_ble_eq_true rfl) (Nat.zero_le _) (Nat.zero_le _) dJ1_indexOf_4cfef_18 ?_
    refine lv_istore_n (lv' := [(3, .int (if (6 : Int32) < x4 then (6 : Int32) else x4)), (2, .int (if x3 < (0 : Int32) then (0 : Int32) else x3)), (0, .ref (G.2.2 3)), (1, .int x2)]) hx hb dJ1_indexOf_4cfef_21 rfl hl (Nat.le_of_ble_eq_true rfl) rfl (fun ls hl => ?_)
    refine lv_iload_n hx hb dJ1_indexOf_4cfef_22 rfl (lv_at hl 1 rfl) ?_
    refine lv_iload_n hx hb dJ1_indexOf_4cfef_23 rfl (lv_at hl 0 rfl) ?_
    refine lv_icmp_lt (tgt := 29) hx hb dJ1_indexOf_4cfef_24 (by decide) (fun c4 => ?_) (fun c4 => ?_)
    · have h := if_t c4 h
      refine lv_aload_n hx hb dJ1_indexOf_4cfef_29 rfl (lv_at hl 2 rfl) ?_
      refine lv_iload_n hx hb dJ1_indexOf_4cfef_30 rfl (lv_at hl 3 rfl) ?_
      refine lv_iload_n hx hb dJ1_indexOf_4cfef_31 rfl (lv_at hl 1 rfl) ?_
      refine lv_iload_n hx hb dJ1_indexOf_4cfef_32 rfl (lv_at hl 0 rfl) ?_
      obtain ⟨r5, hc6, h⟩ := bd_ex h
      refine sl_S K (mJ1_indexOfChar_4cfef l G F x2 (if x3 < (0 : Int32) then (0 : Int32) else x3) (if (6 : Int32) < x4 then (6 : Int32) else x4) hc6) tw_2_139 tw_1_14 tw_2_138 tw_2_137 cdJ1_indexOfChar_4cfef ⟨Nat.le_of_ble_eq_true rfl, Nat.le_of_ble_eq_true rfl⟩ hP hD hS [] rfl rfl rfl rfl hl.1 (Nat.le_of_ble_eq_true rfl) ⟨Nat.zero_le _, Nat.zero_le _⟩ dJ1_indexOf_4cfef_33 (fun H locs hP hD hS => ?_)
      have hP : va_P G.1 vwCl (List.flatten ([] : List va_W)) H := hP
      have hD : va_D A (List.flatten ([] : List va_W)) := hD
      cases h
      exact rt_i K hP hD hS dJ1_indexOf_4cfef_36
    · have h := if_f c4 h
      refine lv_iconst (v := -1) hx hb dJ1_indexOf_4cfef_27 li_m1 ?_
      cases h
      exact rt_i K hP hD hS dJ1_indexOf_4cfef_28
  · have h := if_t c3 h
    refine lv_iconst (v := -1) hx hb dJ1_indexOf_4cfef_7 li_m1 ?_
    cases h
    exact rt_i K hP hD hS dJ1_indexOf_4cfef_8
def fJ0_indexOf_7cf53 (F : Nat)  (x1 : Int32) (x2 : Int32) : Option (Int32) :=
  (fJ0_isLatin1_aae02 F ).bind fun r1 =>
  if r1 = 0 then
    (fJ0_length_8abf5 F ).bind fun r4 =>
    none
  else
    (fJ0_length_8abf5 F ).bind fun r6 =>
    (fJ1_indexOf_4cfef F x1 x2 r6).bind fun r8 =>
    some r8
theorem cdJ0_indexOf_7cf53 : CallD yJ0_indexOf_7cf53 2 := by decide +kernel
set_option maxHeartbeats 4000000 in
set_option maxRecDepth 100000 in
theorem mJ0_indexOf_7cf53 (l : Launch) (G : GP) (F : Nat)   (x1 : Int32) (x2 : Int32) {r : Int32} (h : fJ0_indexOf_7cf53 F  x1 x2 = some r) : CC l G yJ0_indexOf_7cf53 cJ0_indexOf_7cf53 3 (some .int) 3 [.ref (G.2.2 2), .int x1, .int x2] (List.flatten ([] : List va_W)) (List.flatten ([] : List va_W)) (some (.int r)) := by
  refine CC.of (by decide) (Nat.le_of_ble_eq_true rfl) ?_
  intro p e s m below meth c A K hP hD hS ls hl
  obtain ⟨hx, hb, hr, hml, hts, hown, hlocks, hA, hG⟩ := id K
  have hl : lv_has ls 3 [(0, .ref (G.2.2 2)), (1, .int x1), (2, .int x2)] := hl
  unfold fJ0_indexOf_7cf53 at h
  refine lv_aload_n hx hb dJ0_indexOf_7cf53_0 rfl (lv_at hl 0 rfl) ?_
  obtain ⟨r1, hc2, h⟩ := bd_ex h
  refine sl_R (C := RJ0) K (mJ0_isLatin1_aae02 l G F hc2) tw_2_114 tw_1_13 tw_2_112 tw_2_113 tw_2_111 cdJ0_isLatin1_aae02 ⟨Nat.le_of_ble_eq_true rfl, Nat.le_of_ble_eq_true rfl⟩ hP hD hS [] rfl rfl rfl (vk_recv (adK := fun _ => G.2.2 2) (i := 0) hG.2.2.2.2.2.1 (Nat.lt_succ_self 0) hS) rfl hl.1 (Nat.le_of_ble_eq_true rfl) ⟨Nat.zero_le _, Nat.zero_le _⟩ dJ0_indexOf_7cf53_1 (fun H locs hP hD hS => ?_)
  have hP : va_P G.1 vwCl (List.flatten ([] : List va_W)) H := hP
  have hD : va_D A (List.flatten ([] : List va_W)) := hD
  refine lv_if_eq (tgt := 23) hx hb dJ0_indexOf_7cf53_4 (by decide) (fun c3 => ?_) (fun c3 => ?_)
  · have h := if_t c3 h
    refine lv_aload_n hx hb dJ0_indexOf_7cf53_23 rfl (lv_at hl 0 rfl) ?_
    refine vk_getf hx hb ((hG.2.2.2.2.2.1.1 0 (Nat.lt_succ_self 0)).2.2.1) hS hown (hts _ tw_5_208) (fun _ h9 => h9) dJ0_indexOf_7cf53_24 ?_
    refine lv_iload_n hx hb dJ0_indexOf_7cf53_27 rfl (lv_at hl 1 rfl) ?_
    refine lv_iload_n hx hb dJ0_indexOf_7cf53_28 rfl (lv_at hl 2 rfl) ?_
    refine lv_aload_n hx hb dJ0_indexOf_7cf53_29 rfl (lv_at hl 0 rfl) ?_
    obtain ⟨r4, hc5, h⟩ := bd_ex h
    refine sl_R (C := RJ0) K (mJ0_length_8abf5 l G F hc5) tw_2_120 tw_1_13 tw_2_118 tw_2_119 tw_2_117 cdJ0_length_8abf5 ⟨Nat.le_of_ble_eq_true rfl, Nat.le_of_ble_eq_true rfl⟩ hP hD hS [] rfl rfl rfl (vk_recv (adK := fun _ => G.2.2 2) (i := 0) hG.2.2.2.2.2.1 (Nat.lt_succ_self 0) hS) rfl hl.1 (Nat.le_of_ble_eq_true rfl) ⟨Nat.zero_le _, Nat.zero_le _⟩ dJ0_indexOf_7cf53_30 (fun H locs hP hD hS => ?_)
    have hP : va_P G.1 vwCl (List.flatten ([] : List va_W)) H := hP
    have hD : va_D A (List.flatten ([] : List va_W)) := hD
    cases h
  · have h := if_f c3 h
    refine lv_aload_n hx hb dJ0_indexOf_7cf53_7 rfl (lv_at hl 0 rfl) ?_
    refine vk_getf hx hb ((hG.2.2.2.2.2.1.1 0 (Nat.lt_succ_self 0)).2.2.1) hS hown (hts _ tw_5_208) (fun _ h9 => h9) dJ0_indexOf_7cf53_8 ?_
    refine lv_iload_n hx hb dJ0_indexOf_7cf53_11 rfl (lv_at hl 1 rfl) ?_
    refine lv_iload_n hx hb dJ0_indexOf_7cf53_12 rfl (lv_at hl 2 rfl) ?_
    refine lv_aload_n hx hb dJ0_indexOf_7cf53_13 rfl (lv_at hl 0 rfl) ?_
    obtain ⟨r6, hc7, h⟩ := bd_ex h
    refine sl_R (C := RJ0) K (mJ0_length_8abf5 l G F hc7) tw_2_120 tw_1_13 tw_2_118 tw_2_119 tw_2_117 cdJ0_length_8abf5 ⟨Nat.le_of_ble_eq_true rfl, Nat.le_of_ble_eq_true rfl⟩ hP hD hS [] rfl rfl rfl (vk_recv (adK := fun _ => G.2.2 2) (i := 0) hG.2.2.2.2.2.1 (Nat.lt_succ_self 0) hS) rfl hl.1 (Nat.le_of_ble_eq_true rfl) ⟨Nat.zero_le _, Nat.zero_le _⟩ dJ0_indexOf_7cf53_14 (fun H locs hP hD hS => ?_)
    have hP : va_P G.1 vwCl (List.flatten ([] : List va_W)) H := hP
    have hD : va_D A (List.flatten ([] : List va_W)) := hD
    obtain ⟨r8, hc9, h⟩ := bd_ex h
    refine sl_S K (mJ1_indexOf_4cfef l G F x1 x2 r6 hc9) tw_2_127 tw_1_14 tw_2_126 tw_2_125 cdJ1_indexOf_4cfef ⟨Nat.le_of_ble_eq_true rfl, Nat.le_of_ble_eq_true rfl⟩ hP hD hS [] rfl rfl rfl rfl hl.1 (Nat.le_of_ble_eq_true rfl) ⟨Nat.zero_le _, Nat.zero_le _⟩ dJ0_indexOf_7cf53_17 (fun H locs hP hD hS => ?_)
    have hP : va_P G.1 vwCl (List.flatten ([] : List va_W)) H := hP
    have hD : va_D A (List.flatten ([] : List va_W)) := hD
    refine lv_goto (tgt := 36) hx hb dJ0_indexOf_7cf53_20 (by decide) ?_
    cases h
    exact rt_i K hP hD hS dJ0_indexOf_7cf53_36
def fJ0_indexOf_0f7a4 (F : Nat)  (x1 : Int32) : Option (Int32) :=
  (fJ0_indexOf_7cf53 F x1 (0 : Int32)).bind fun r1 =>
  some r1
theorem cdJ0_indexOf_0f7a4 : CallD yJ0_indexOf_0f7a4 1 := by decide +kernel
set_option maxHeartbeats 4000000 in
set_option maxRecDepth 100000 in
theorem mJ0_indexOf_0f7a4 (l : Launch) (G : GP) (F : Nat)   (x1 : Int32) {r : Int32} (h : fJ0_indexOf_0f7a4 F  x1 = some r) : CC l G yJ0_indexOf_0f7a4 cJ0_indexOf_0f7a4 2 (some .int) 4 [.ref (G.2.2 2), .int x1] (List.flatten ([] : List va_W)) (List.flatten ([] : List va_W)) (some (.int r)) := by
  refine CC.of (by decide) (Nat.le_of_ble_eq_true rfl) ?_
  intro p e s m below meth c A K hP hD hS ls hl
  obtain ⟨hx, hb, hr, hml, hts, hown, hlocks, hA, hG⟩ := id K
  have hl : lv_has ls 2 [(0, .ref (G.2.2 2)), (1, .int x1)] := hl
  unfold fJ0_indexOf_0f7a4 at h
  refine lv_aload_n hx hb dJ0_indexOf_0f7a4_0 rfl (lv_at hl 0 rfl) ?_
  refine lv_iload_n hx hb dJ0_indexOf_0f7a4_1 rfl (lv_at hl 1 rfl) ?_
  refine lv_iconst (v := 0) hx hb dJ0_indexOf_0f7a4_2 li_0 ?_
  obtain ⟨r1, hc2, h⟩ := bd_ex h
  refine sl_R (C := RJ0) K (mJ0_indexOf_7cf53 l G F x1 (0 : Int32) hc2) tw_2_110 tw_1_13 tw_2_108 tw_2_109 tw_2_107 cdJ0_indexOf_7cf53 ⟨Nat.le_of_ble_eq_true rfl, Nat.le_of_ble_eq_true rfl⟩ hP hD hS [] rfl rfl rfl (vk_recv (adK := fun _ => G.2.2 2) (i := 0) hG.2.2.2.2.2.1 (Nat.lt_succ_self 0) hS) rfl hl.1 (Nat.le_of_ble_eq_true rfl) ⟨Nat.zero_le _, Nat.zero_le _⟩ dJ0_indexOf_0f7a4_3 (fun H locs hP hD hS => ?_)
  have hP : va_P G.1 vwCl (List.flatten ([] : List va_W)) H := hP
  have hD : va_D A (List.flatten ([] : List va_W)) := hD
  cases h
  exact rt_i K hP hD hS dJ0_indexOf_0f7a4_6
