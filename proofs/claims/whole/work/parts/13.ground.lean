def fX4_copyFour (F : Nat) (σqq : (Nat → Int32)) (σuu : (Nat → Int32))  : Option ((Nat → Int32)) :=
  nm (va_cpy σqq σuu 0 0 4) fun (s1 : Nat → Int32) =>
  some s1
theorem cdX4_copyFour : CallD yX4_copyFour 2 := by decide +kernel
set_option maxHeartbeats 4000000 in
set_option maxRecDepth 100000 in
theorem mX4_copyFour (l : Launch) (G : GP) (F : Nat) (qq : Nat) (uu : Nat) (σqq : (Nat → Int32)) (σuu : (Nat → Int32))  {r : (Nat → Int32)} (h : fX4_copyFour F σqq σuu  = some r) : CC l G yX4_copyFour cX4_copyFour 2 none 2 [.ref qq, .ref uu] (List.flatten [wI G qq σqq, wI G uu σuu]) (List.flatten [wI G qq σqq, wI G uu r]) none := by
  refine CC.of (by decide) (Nat.le_of_ble_eq_true rfl) ?_
  intro p e s m below meth c A K hP hD hS ls hl
  obtain ⟨hx, hb, hr, hml, hts, hown, hlocks, hA, hG⟩ := id K
  have hl : lv_has ls 2 [(0, .ref qq), (1, .ref uu)] := hl
  unfold fX4_copyFour at h
  refine lv_aload_n hx hb dX4_copyFour_0 rfl (lv_at hl 0 rfl) ?_
  refine lv_iconst (v := 0) hx hb dX4_copyFour_1 li_0 ?_
  refine lv_aload_n hx hb dX4_copyFour_2 rfl (lv_at hl 1 rfl) ?_
  refine lv_iconst (v := 0) hx hb dX4_copyFour_3 li_0 ?_
  refine lv_iconst (v := 4) hx hb dX4_copyFour_4 li_4 ?_
  obtain ⟨s1, e2, h⟩ := nm_ex h
  refine va_copyi hx hb (hml.trans hl.1.symm) hown (hts _ tw_3_11) (hts _ tw_3_13) (hts _ tw_3_12) (hts _ tw_1_19) hG.1 hP hD hS 0 1 0 0 rfl rfl rfl rfl rfl (by decide) (by decide) (by decide) (by decide) (by decide) (fun _ _ => rfl) (Nat.le_of_ble_eq_true rfl) (Nat.le_of_ble_eq_true rfl) dX4_copyFour_5 (fun H locs hP hD hS => ?_)
  have hP : va_P G.1 vwCl (List.flatten [wI G qq σqq, wI G uu s1]) H := by rw [e2]; exact hP
  have hD : va_D A (List.flatten [wI G qq σqq, wI G uu s1]) := by rw [e2]; exact hD
  cases h
  exact rt_v K hP hD hS dX4_copyFour_8
def fX4_clear (F : Nat) (σdd : ST)  : Option (ST) :=
  nm (sI σdd 3 (0 : Int32)) fun (s1 : ST) =>
  nm (sI s1 4 (0 : Int32)) fun (s3 : ST) =>
  nm (sI s3 5 (0 : Int32)) fun (s5 : ST) =>
  some s5
theorem cdX4_clear : CallD yX4_clear 0 := by decide +kernel
set_option maxHeartbeats 4000000 in
set_option maxRecDepth 100000 in
theorem mX4_clear (l : Launch) (G : GP) (F : Nat) (dd : Nat → Nat) (σdd : ST)  {r : ST} (h : fX4_clear F σdd  = some r) : CC l G yX4_clear cX4_clear 1 none 1 [.ref (dd 0)] (List.flatten [wD G dd σdd]) (List.flatten [wD G dd r]) none := by
  refine CC.of (by decide) (Nat.le_of_ble_eq_true rfl) ?_
  intro p e s m below meth c A K hP hD hS ls hl
  obtain ⟨hx, hb, hr, hml, hts, hown, hlocks, hA, hG⟩ := id K
  have hl : lv_has ls 1 [(0, .ref (dd 0))] := hl
  unfold fX4_clear at h
  refine lv_aload_n hx hb dX4_clear_0 rfl (lv_at hl 0 rfl) ?_
  refine lv_iconst (v := 0) hx hb dX4_clear_1 li_0 ?_
  obtain ⟨s1, e2, h⟩ := nm_ex h
  refine va_put (D := G.1) (cl := vwCl) (tys := tysG G) (ci := 4) (v := .int (0 : Int32)) (ty := .int) (C := RX4) (T := TX4) (N := 6) hx hb hts iX4 tyX4 tyX4_ok nmX4 hown hG.1 hP hD hS 0 rfl rfl 3 (Nat.le_of_ble_eq_true rfl) (hts _ tw_1_100) (fun _ h9 => h9) rfl (by decide +kernel) rfl rfl (Nat.le_of_ble_eq_true rfl) dX4_clear_2 (fun H locs hP hD hS => ?_)
  have hP : va_P G.1 vwCl (List.flatten [wD G dd s1]) H := by rw [e2]; exact hP
  have hD : va_D A (List.flatten [wD G dd s1]) := by rw [e2]; exact hD
  refine lv_aload_n hx hb dX4_clear_5 rfl (lv_at hl 0 rfl) ?_
  refine lv_iconst (v := 0) hx hb dX4_clear_6 li_0 ?_
  obtain ⟨s3, e4, h⟩ := nm_ex h
  refine va_put (D := G.1) (cl := vwCl) (tys := tysG G) (ci := 4) (v := .int (0 : Int32)) (ty := .int) (C := RX4) (T := TX4) (N := 6) hx hb hts iX4 tyX4 tyX4_ok nmX4 hown hG.1 hP hD hS 0 rfl rfl 4 (Nat.le_of_ble_eq_true rfl) (hts _ tw_1_104) (fun _ h9 => h9) rfl (by decide +kernel) rfl rfl (Nat.le_of_ble_eq_true rfl) dX4_clear_7 (fun H locs hP hD hS => ?_)
  have hP : va_P G.1 vwCl (List.flatten [wD G dd s3]) H := by rw [e4]; exact hP
  have hD : va_D A (List.flatten [wD G dd s3]) := by rw [e4]; exact hD
  refine lv_aload_n hx hb dX4_clear_10 rfl (lv_at hl 0 rfl) ?_
  refine lv_iconst (v := 0) hx hb dX4_clear_11 li_0 ?_
  obtain ⟨s5, e6, h⟩ := nm_ex h
  refine va_put (D := G.1) (cl := vwCl) (tys := tysG G) (ci := 4) (v := .int (0 : Int32)) (ty := .int) (C := RX4) (T := TX4) (N := 6) hx hb hts iX4 tyX4 tyX4_ok nmX4 hown hG.1 hP hD hS 0 rfl rfl 5 (Nat.le_of_ble_eq_true rfl) (hts _ tw_1_107) (fun _ h9 => h9) rfl (by decide +kernel) rfl rfl (Nat.le_of_ble_eq_true rfl) dX4_clear_12 (fun H locs hP hD hS => ?_)
  have hP : va_P G.1 vwCl (List.flatten [wD G dd s5]) H := by rw [e6]; exact hP
  have hD : va_D A (List.flatten [wD G dd s5]) := by rw [e6]; exact hD
  cases h
  exact rt_v K hP hD hS dX4_clear_15
def fX4_hasHill (F : Nat) (σdd : ST) (x1 : Int32) : Option (Int32) :=
  (fX10_isBelow F x1 (σdd.1 3)).bind fun r1 =>
  if ¬ (r1 = 0 ∨ r1 = 1) then none else
  some r1
theorem cdX4_hasHill : CallD yX4_hasHill 1 := by decide +kernel
set_option maxHeartbeats 4000000 in
set_option maxRecDepth 100000 in
theorem mX4_hasHill (l : Launch) (G : GP) (F : Nat) (dd : Nat → Nat) (σdd : ST) (x1 : Int32) {r : Int32} (h : fX4_hasHill F σdd x1 = some r) : CC l G yX4_hasHill cX4_hasHill 2 (some .boolean) 2 [.ref (dd 0), .int x1] (List.flatten [wD G dd σdd]) (List.flatten [wD G dd σdd]) (some (.int r)) := by
  refine CC.of (by decide) (Nat.le_of_ble_eq_true rfl) ?_
  intro p e s m below meth c A K hP hD hS ls hl
  obtain ⟨hx, hb, hr, hml, hts, hown, hlocks, hA, hG⟩ := id K
  have hl : lv_has ls 2 [(0, .ref (dd 0)), (1, .int x1)] := hl
  unfold fX4_hasHill at h
  refine lv_iload_n hx hb dX4_hasHill_0 rfl (lv_at hl 1 rfl) ?_
  refine lv_aload_n hx hb dX4_hasHill_1 rfl (lv_at hl 0 rfl) ?_
  refine va_get (D := G.1) (cl := vwCl) (tys := tysG G) (ci := 4) (v := .int (σdd.1 3)) (C := RX4) (T := TX4) (N := 6) hx hb hts iX4 hown hG.1 hP 0 rfl rfl 3 (Nat.le_of_ble_eq_true rfl) (hts _ tw_1_100) (fun _ h9 => h9) rfl dX4_hasHill_2 ?_
  obtain ⟨r1, hc2, h⟩ := bd_ex h
  refine sl_SN K (mX10_isBelow l G F x1 (σdd.1 3) hc2) tw_2_194 tw_1_1 tw_2_193 tw_3_18 cdX10_isBelow ⟨Nat.le_of_ble_eq_true rfl, Nat.le_of_ble_eq_true rfl⟩ hP hD hS [] rfl rfl rfl rfl hl.1 (Nat.le_of_ble_eq_true rfl) ⟨Nat.zero_le _, Nat.zero_le _⟩ dX4_hasHill_5 (fun H locs hP hD hS => ?_)
  have hP : va_P G.1 vwCl (List.flatten [wD G dd σdd]) H := hP
  have hD : va_D A (List.flatten [wD G dd σdd]) := hD
  obtain ⟨ck3, h⟩ := ck h
  cases h
  exact rt_z K (Classical.not_not.mp ck3) hP hD hS dX4_hasHill_8
def fX4_hasCliff (F : Nat) (σdd : ST) (x1 : Int32) : Option (Int32) :=
  if (((σdd.1 5) >>> (x1 &&& 31)) &&& (1 : Int32)) = 0 then
    some (0 : Int32)
  else
    some (1 : Int32)
theorem cdX4_hasCliff : CallD yX4_hasCliff 1 := by decide +kernel
set_option maxHeartbeats 4000000 in
set_option maxRecDepth 100000 in
theorem mX4_hasCliff (l : Launch) (G : GP) (F : Nat) (dd : Nat → Nat) (σdd : ST) (x1 : Int32) {r : Int32} (h : fX4_hasCliff F σdd x1 = some r) : CC l G yX4_hasCliff cX4_hasCliff 2 (some .boolean) 1 [.ref (dd 0), .int x1] (List.flatten [wD G dd σdd]) (List.flatten [wD G dd σdd]) (some (.int r)) := by
  refine CC.of (by decide) (Nat.le_of_ble_eq_true rfl) ?_
  intro p e s m below meth c A K hP hD hS ls hl
  obtain ⟨hx, hb, hr, hml, hts, hown, hlocks, hA, hG⟩ := id K
  have hl : lv_has ls 2 [(0, .ref (dd 0)), (1, .int x1)] := hl
  unfold fX4_hasCliff at h
  refine lv_aload_n hx hb dX4_hasCliff_0 rfl (lv_at hl 0 rfl) ?_
  refine va_get (D := G.1) (cl := vwCl) (tys := tysG G) (ci := 4) (v := .int (σdd.1 5)) (C := RX4) (T := TX4) (N := 6) hx hb hts iX4 hown hG.1 hP 0 rfl rfl 5 (Nat.le_of_ble_eq_true rfl) (hts _ tw_1_107) (fun _ h9 => h9) rfl dX4_hasCliff_1 ?_
  refine lv_iload_n hx hb dX4_hasCliff_4 rfl (lv_at hl 1 rfl) ?_
  refine lv_ishr hx hb dX4_hasCliff_5 ?_
  refine lv_iconst (v := 1) hx hb dX4_hasCliff_6 li_1 ?_
  refine lv_iand hx hb dX4_hasCliff_7 ?_
  refine lv_if_eq (tgt := 15) hx hb dX4_hasCliff_8 (by decide) (fun c1 => ?_) (fun c1 => ?_)
  · have h := if_t c1 h
    refine lv_iconst (v := 0) hx hb dX4_hasCliff_15 li_0 ?_
    cases h
    exact rt_z K (Or.inl rfl) hP hD hS dX4_hasCliff_16
  · have h := if_f c1 h
    refine lv_iconst (v := 1) hx hb dX4_hasCliff_11 li_1 ?_
    refine lv_goto (tgt := 16) hx hb dX4_hasCliff_12 (by decide) ?_
    cases h
    exact rt_z K (Or.inr rfl) hP hD hS dX4_hasCliff_16
def fX4_addCliff (F : Nat) (σdd : ST) (x1 : Int32) (x2 : Int32) : Option (ST) :=
  (fX10_isBelow F x1 (6 : Int32)).bind fun r1 =>
  if r1 = 0 then
    some σdd
  else
    nm (sI σdd 5 ((σdd.1 5) ||| ((1 : Int32) <<< (x1 &&& 31)))) fun (s4 : ST) =>
    if x1 < 0 ∨ 6 ≤ x1.toNatClampNeg then none else
    nm (sA s4 2 x1.toNatClampNeg x2) fun (s7 : ST) =>
    some s7
theorem cdX4_addCliff : CallD yX4_addCliff 2 := by decide +kernel
set_option maxHeartbeats 4000000 in
set_option maxRecDepth 100000 in
theorem mX4_addCliff (l : Launch) (G : GP) (F : Nat) (dd : Nat → Nat) (σdd : ST) (x1 : Int32) (x2 : Int32) {r : ST} (h : fX4_addCliff F σdd x1 x2 = some r) : CC l G yX4_addCliff cX4_addCliff 3 none 2 [.ref (dd 0), .int x1, .int x2] (List.flatten [wD G dd σdd]) (List.flatten [wD G dd r]) none := by
  refine CC.of (by decide) (Nat.le_of_ble_eq_true rfl) ?_
  intro p e s m below meth c A K hP hD hS ls hl
  obtain ⟨hx, hb, hr, hml, hts, hown, hlocks, hA, hG⟩ := id K
  have hl : lv_has ls 3 [(0, .ref (dd 0)), (1, .int x1), (2, .int x2)] := hl
  unfold fX4_addCliff at h
  refine lv_iload_n hx hb dX4_addCliff_0 rfl (lv_at hl 1 rfl) ?_
  refine lv_bipush (v := 6) hx hb dX4_addCliff_1 lb_6 ?_
  obtain ⟨r1, hc2, h⟩ := bd_ex h
  refine sl_SN K (mX10_isBelow l G F x1 (6 : Int32) hc2) tw_2_194 tw_1_1 tw_2_193 tw_3_18 cdX10_isBelow ⟨Nat.le_of_ble_eq_true rfl, Nat.le_of_ble_eq_true rfl⟩ hP hD hS [] rfl rfl rfl rfl hl.1 (Nat.le_of_ble_eq_true rfl) ⟨Nat.zero_le _, Nat.zero_le _⟩ dX4_addCliff_3 (fun H locs hP hD hS => ?_)
  have hP : va_P G.1 vwCl (List.flatten [wD G dd σdd]) H := hP
  have hD : va_D A (List.flatten [wD G dd σdd]) := hD
  refine lv_if_eq (tgt := 28) hx hb dX4_addCliff_6 (by decide) (fun c3 => ?_) (fun c3 => ?_)
  · have h := if_t c3 h
    cases h
    exact rt_v K hP hD hS dX4_addCliff_28
  · have h := if_f c3 h
    refine lv_aload_n hx hb dX4_addCliff_9 rfl (lv_at hl 0 rfl) ?_
    refine lv_dup hx hb dX4_addCliff_10 rfl ?_
    refine va_get (D := G.1) (cl := vwCl) (tys := tysG G) (ci := 4) (v := .int (σdd.1 5)) (C := RX4) (T := TX4) (N := 6) hx hb hts iX4 hown hG.1 hP 0 rfl rfl 5 (Nat.le_of_ble_eq_true rfl) (hts _ tw_1_107) (fun _ h9 => h9) rfl dX4_addCliff_11 ?_
    refine lv_iconst (v := 1) hx hb dX4_addCliff_14 li_1 ?_
    refine lv_iload_n hx hb dX4_addCliff_15 rfl (lv_at hl 1 rfl) ?_
    refine lv_ishl hx hb dX4_addCliff_16 ?_
    refine lv_ior hx hb dX4_addCliff_17 ?_
    obtain ⟨s4, e5, h⟩ := nm_ex h
    refine va_put (D := G.1) (cl := vwCl) (tys := tysG G) (ci := 4) (v := .int ((σdd.1 5) ||| ((1 : Int32) <<< (x1 &&& 31)))) (ty := .int) (C := RX4) (T := TX4) (N := 6) hx hb hts iX4 tyX4 tyX4_ok nmX4 hown hG.1 hP hD hS 0 rfl rfl 5 (Nat.le_of_ble_eq_true rfl) (hts _ tw_1_107) (fun _ h9 => h9) rfl (by decide +kernel) rfl rfl (Nat.le_of_ble_eq_true rfl) dX4_addCliff_18 (fun H locs hP hD hS => ?_)
    have hP : va_P G.1 vwCl (List.flatten [wD G dd s4]) H := by rw [e5]; exact hP
    have hD : va_D A (List.flatten [wD G dd s4]) := by rw [e5]; exact hD
    refine lv_aload_n hx hb dX4_addCliff_21 rfl (lv_at hl 0 rfl) ?_
    refine va_get (D := G.1) (cl := vwCl) (tys := tysG G) (ci := 4) (v := .ref (dd 3)) (C := RX4) (T := TX4) (N := 6) hx hb hts iX4 hown hG.1 hP 0 rfl rfl 2 (Nat.le_of_ble_eq_true rfl) (hts _ tw_1_99) (fun _ h9 => h9) rfl dX4_addCliff_22 ?_
    refine lv_iload_n hx hb dX4_addCliff_25 rfl (lv_at hl 1 rfl) ?_
    refine lv_iload_n hx hb dX4_addCliff_26 rfl (lv_at hl 2 rfl) ?_
    obtain ⟨ck6, h⟩ := ck h
    obtain ⟨s7, e8, h⟩ := nm_ex h
    refine va_iast hx hb hG.1 hP hD hS 10 0 rfl rfl ck6 dX4_addCliff_27 (fun H locs hP hD hS => ?_)
    have hP : va_P G.1 vwCl (List.flatten [wD G dd s7]) H := by rw [e8]; exact hP
    have hD : va_D A (List.flatten [wD G dd s7]) := by rw [e8]; exact hD
    cases h
    exact rt_v K hP hD hS dX4_addCliff_28
def gbX4_sunnyCells_27 (F : Nat) (σdd : ST) (v1 : Int32) (v2 : Int32) (rc : Int32 → Int32 → Option (Int32 × Int32)) (v3 : Int32) (v4 : Int32) : Option (Int32 × Int32) :=
  if (σdd.1 4) ≤ v4 then
    some (v3, v4)
  else
    if v4 = 0 then
      if v1 < (σdd.2.1 20 (2 : Int32).toNatClampNeg) then
        rc v3 (v4 + 1)
      else
        if (σdd.2.1 20 (3 : Int32).toNatClampNeg) < v1 then
          rc v3 (v4 + 1)
        else
          (fX10_columnBits F (σdd.2.1 20 (0 : Int32).toNatClampNeg) (σdd.2.1 20 (1 : Int32).toNatClampNeg)).bind fun r8 =>
          rc (v3 &&& (r8 ^^^ (-1 : Int32))) (v4 + 1)
    else
    if v4 = 1 then
      if v1 < (σdd.2.1 21 (2 : Int32).toNatClampNeg) then
        rc v3 (v4 + 1)
      else
        if (σdd.2.1 21 (3 : Int32).toNatClampNeg) < v1 then
          rc v3 (v4 + 1)
        else
          (fX10_columnBits F (σdd.2.1 21 (0 : Int32).toNatClampNeg) (σdd.2.1 21 (1 : Int32).toNatClampNeg)).bind fun r13 =>
          rc (v3 &&& (r13 ^^^ (-1 : Int32))) (v4 + 1)
    else
    if v4 = 2 then
      if v1 < (σdd.2.1 22 (2 : Int32).toNatClampNeg) then
        rc v3 (v4 + 1)
      else
        if (σdd.2.1 22 (3 : Int32).toNatClampNeg) < v1 then
          rc v3 (v4 + 1)
        else
          (fX10_columnBits F (σdd.2.1 22 (0 : Int32).toNatClampNeg) (σdd.2.1 22 (1 : Int32).toNatClampNeg)).bind fun r18 =>
          rc (v3 &&& (r18 ^^^ (-1 : Int32))) (v4 + 1)
    else
    if v4 = 3 then
      if v1 < (σdd.2.1 23 (2 : Int32).toNatClampNeg) then
        rc v3 (v4 + 1)
      else
        if (σdd.2.1 23 (3 : Int32).toNatClampNeg) < v1 then
          rc v3 (v4 + 1)
        else
          (fX10_columnBits F (σdd.2.1 23 (0 : Int32).toNatClampNeg) (σdd.2.1 23 (1 : Int32).toNatClampNeg)).bind fun r23 =>
          rc (v3 &&& (r23 ^^^ (-1 : Int32))) (v4 + 1)
    else
      none
def gX4_sunnyCells_27 (F : Nat) (σdd : ST) (v1 : Int32) (v2 : Int32) : Nat → Int32 → Int32 → Option (Int32 × Int32)
  | 0, _, _ => none
  | n + 1, v3, v4 => gbX4_sunnyCells_27 F σdd v1 v2 (gX4_sunnyCells_27 F σdd v1 v2 n) v3 v4
set_option maxHeartbeats 4000000 in
set_option maxRecDepth 100000 in
theorem kX4_sunnyCells_27 {p : Program} {l : Launch} {e : Env} {s : State} {m : MethodId} {args : Array Value} {below : List Frame} {meth : Method} {c : Code} {A : Nat → Prop} {Q : State → Prop} {G : GP} (K : Cx p s m meth c G cX4_sunnyCells RX4 6 (some .int) args A) (F : Nat) (dd : Nat → Nat) (σdd : ST) (v1 : Int32) (v2 : Int32) {z : Int32 × Int32} (kk : ∀ (H : Heap) (locs : List Loc) (ls : Array Slot), va_P G.1 vwCl (List.flatten [wD G dd σdd]) H → va_D A (List.flatten [wD G dd σdd]) → va_S A s.heap H locs → lv_has ls 6 [(0, .ref (dd 0)), (1, .int v1), (2, .int v2), (3, .int z.1), (4, .int z.2)] → W p l e (RM 3) s m args below meth c H locs 0 0 Q (F0 m 83 ls [])) :
    ∀ (n : Nat) (v3 : Int32) (v4 : Int32) (H : Heap) (locs : List Loc) (ls : Array Slot), va_P G.1 vwCl (List.flatten [wD G dd σdd]) H → va_D A (List.flatten [wD G dd σdd]) → va_S A s.heap H locs → lv_has ls 6 [(0, .ref (dd 0)), (1, .int v1), (2, .int v2), (3, .int v3), (4, .int v4)] → gX4_sunnyCells_27 F σdd v1 v2 n v3 v4 = some z → W p l e (RM 3) s m args below meth c H locs 0 0 Q (F0 m 27 ls []) := by
  obtain ⟨hx, hb, hr, hml, hts, hown, hlocks, hA, hG⟩ := id K
  intro n
  induction n with
  | zero =>
    intro v3 v4 H locs ls hP hD hS hl h
    have h : none = some z := h
    cases h
  | succ n ih =>
    intro v3 v4 H locs ls hP hD hS hl h
    have h : gbX4_sunnyCells_27 F σdd v1 v2 (gX4_sunnyCells_27 F σdd v1 v2 n) v3 v4 = some z := h
    unfold gbX4_sunnyCells_27 at h
    refine lv_iload hx hb dX4_sunnyCells_27 (lv_at hl 4 rfl) ?_
    refine lv_aload_n hx hb dX4_sunnyCells_29 rfl (lv_at hl 0 rfl) ?_
    refine va_get (D := G.1) (cl := vwCl) (tys := tysG G) (ci := 4) (v := .int (σdd.1 4)) (C := RX4) (T := TX4) (N := 6) hx hb hts iX4 hown hG.1 hP 0 rfl rfl 4 (Nat.le_of_ble_eq_true rfl) (hts _ tw_1_104) (fun _ h9 => h9) rfl dX4_sunnyCells_30 ?_
    refine lv_icmp_ge (tgt := 83) hx hb dX4_sunnyCells_33 (by decide) (fun c4 => ?_) (fun c4 => ?_)
    · have h := if_t c4 h
      cases h
      exact kk _ _ _ hP hD hS (lv_sub hl [0, 1, 2, 3, 4] rfl)
    · have h := if_f c4 h
      refine lv_aload_n hx hb dX4_sunnyCells_36 rfl (lv_at hl 0 rfl) ?_
      refine va_get (D := G.1) (cl := vwCl) (tys := tysG G) (ci := 4) (v := .ref (dd 2)) (C := RX4) (T := TX4) (N := 6) hx hb hts iX4 hown hG.1 hP 0 rfl rfl 1 (Nat.le_of_ble_eq_true rfl) (hts _ tw_1_98) (fun _ h9 => h9) rfl dX4_sunnyCells_37 ?_
      refine lv_iload hx hb dX4_sunnyCells_40 (lv_at hl 4 rfl) ?_
      by_cases c5 : v4 = 0
      · have h := if_t c5 h
        refine my_aald hx hb hG.1 hP 5 4 rfl rfl (b := dd 20) rfl (by rw [c5]; exact vpi (by decide)) (by rw [c5]; rfl) dX4_sunnyCells_42 ?_
        refine lv_astore (lv' := [(5, .ref (dd 20)), (0, .ref (dd 0)), (1, .int v1), (2, .int v2), (3, .int v3), (4, .int v4)]) hx hb dX4_sunnyCells_43 hl (Nat.le_of_ble_eq_true rfl) rfl (fun ls hl => ?_)
        refine lv_iload_n hx hb dX4_sunnyCells_45 rfl (lv_at hl 2 rfl) ?_
        refine lv_aload hx hb dX4_sunnyCells_46 (lv_at hl 0 rfl) ?_
        refine lv_iconst (v := 2) hx hb dX4_sunnyCells_48 li_2 ?_
        refine va_iald hx hb hG.1 hP 6 0 rfl rfl (vpi (by decide)) dX4_sunnyCells_49 ?_
        refine lv_icmp_lt (tgt := 77) hx hb dX4_sunnyCells_50 (by decide) (fun c6 => ?_) (fun c6 => ?_)
        · have h := if_t c6 h
          refine lv_iinc (v := v4 + 1) (lv' := [(4, .int (v4 + 1)), (5, .ref (dd 20)), (0, .ref (dd 0)), (1, .int v1), (2, .int v2), (3, .int v3)]) hx hb dX4_sunnyCells_77 hl (k := 5) rfl (by rw [li_1]) (Nat.le_of_ble_eq_true rfl) rfl (fun ls hl => ?_)
          refine lv_goto (tgt := 27) hx hb dX4_sunnyCells_80 (by decide) ?_
          exact ih v3 (v4 + 1) _ _ _ hP hD hS (lv_sub hl [2, 3, 4, 5, 0] rfl) h
        · have h := if_f c6 h
          refine lv_iload_n hx hb dX4_sunnyCells_53 rfl (lv_at hl 2 rfl) ?_
          refine lv_aload hx hb dX4_sunnyCells_54 (lv_at hl 0 rfl) ?_
          refine lv_iconst (v := 3) hx hb dX4_sunnyCells_56 li_3 ?_
          refine va_iald hx hb hG.1 hP 6 0 rfl rfl (vpi (by decide)) dX4_sunnyCells_57 ?_
          refine lv_icmp_gt (tgt := 77) hx hb dX4_sunnyCells_58 (by decide) (fun c7 => ?_) (fun c7 => ?_)
          · have h := if_t c7 h
            refine lv_iinc (v := v4 + 1) (lv' := [(4, .int (v4 + 1)), (5, .ref (dd 20)), (0, .ref (dd 0)), (1, .int v1), (2, .int v2), (3, .int v3)]) hx hb dX4_sunnyCells_77 hl (k := 5) rfl (by rw [li_1]) (Nat.le_of_ble_eq_true rfl) rfl (fun ls hl => ?_)
            refine lv_goto (tgt := 27) hx hb dX4_sunnyCells_80 (by decide) ?_
            exact ih v3 (v4 + 1) _ _ _ hP hD hS (lv_sub hl [2, 3, 4, 5, 0] rfl) h
          · have h := if_f c7 h
            refine lv_iload_n hx hb dX4_sunnyCells_61 rfl (lv_at hl 4 rfl) ?_
            refine lv_aload hx hb dX4_sunnyCells_62 (lv_at hl 0 rfl) ?_
            refine lv_iconst (v := 0) hx hb dX4_sunnyCells_64 li_0 ?_
            refine va_iald hx hb hG.1 hP 6 0 rfl rfl (vpi (by decide)) dX4_sunnyCells_65 ?_
            refine lv_aload hx hb dX4_sunnyCells_66 (lv_at hl 0 rfl) ?_
            refine lv_iconst (v := 1) hx hb dX4_sunnyCells_68 li_1 ?_
            refine va_iald hx hb hG.1 hP 6 0 rfl rfl (vpi (by decide)) dX4_sunnyCells_69 ?_
            obtain ⟨r8, hc9, h⟩ := bd_ex h
            refine sl_SN K (mX10_columnBits l G F (σdd.2.1 20 (0 : Int32).toNatClampNeg) (σdd.2.1 20 (1 : Int32).toNatClampNeg) hc9) tw_3_133 tw_1_1 tw_3_132 tw_3_141 cdX10_columnBits ⟨Nat.le_of_ble_eq_true rfl, Nat.le_of_ble_eq_true rfl⟩ hP hD hS [] rfl rfl rfl rfl hl.1 (Nat.le_of_ble_eq_true rfl) ⟨Nat.zero_le _, Nat.zero_le _⟩ dX4_sunnyCells_70 (fun H locs hP hD hS => ?_)
            have hP : va_P G.1 vwCl (List.flatten [wD G dd σdd]) H := hP
            have hD : va_D A (List.flatten [wD G dd σdd]) := hD
            refine lv_iconst (v := -1) hx hb dX4_sunnyCells_73 li_m1 ?_
            refine lv_ixor hx hb dX4_sunnyCells_74 ?_
            refine lv_iand hx hb dX4_sunnyCells_75 ?_
            refine lv_istore_n (lv' := [(3, .int (v3 &&& (r8 ^^^ (-1 : Int32)))), (5, .ref (dd 20)), (0, .ref (dd 0)), (1, .int v1), (2, .int v2), (4, .int v4)]) hx hb dX4_sunnyCells_76 rfl hl (Nat.le_of_ble_eq_true rfl) rfl (fun ls hl => ?_)
            refine lv_iinc (v := v4 + 1) (lv' := [(4, .int (v4 + 1)), (3, .int (v3 &&& (r8 ^^^ (-1 : Int32)))), (5, .ref (dd 20)), (0, .ref (dd 0)), (1, .int v1), (2, .int v2)]) hx hb dX4_sunnyCells_77 hl (k := 5) rfl (by rw [li_1]) (Nat.le_of_ble_eq_true rfl) rfl (fun ls hl => ?_)
            refine lv_goto (tgt := 27) hx hb dX4_sunnyCells_80 (by decide) ?_
            exact ih (v3 &&& (r8 ^^^ (-1 : Int32))) (v4 + 1) _ _ _ hP hD hS (lv_sub hl [3, 4, 5, 1, 0] rfl) h
      have h := if_f c5 h
      by_cases c10 : v4 = 1
      · have h := if_t c10 h
        refine my_aald hx hb hG.1 hP 5 4 rfl rfl (b := dd 21) rfl (by rw [c10]; exact vpi (by decide)) (by rw [c10]; rfl) dX4_sunnyCells_42 ?_
        refine lv_astore (lv' := [(5, .ref (dd 21)), (0, .ref (dd 0)), (1, .int v1), (2, .int v2), (3, .int v3), (4, .int v4)]) hx hb dX4_sunnyCells_43 hl (Nat.le_of_ble_eq_true rfl) rfl (fun ls hl => ?_)
        refine lv_iload_n hx hb dX4_sunnyCells_45 rfl (lv_at hl 2 rfl) ?_
        refine lv_aload hx hb dX4_sunnyCells_46 (lv_at hl 0 rfl) ?_
        refine lv_iconst (v := 2) hx hb dX4_sunnyCells_48 li_2 ?_
        refine va_iald hx hb hG.1 hP 7 0 rfl rfl (vpi (by decide)) dX4_sunnyCells_49 ?_
        refine lv_icmp_lt (tgt := 77) hx hb dX4_sunnyCells_50 (by decide) (fun c11 => ?_) (fun c11 => ?_)
        · have h := if_t c11 h
          refine lv_iinc (v := v4 + 1) (lv' := [(4, .int (v4 + 1)), (5, .ref (dd 21)), (0, .ref (dd 0)), (1, .int v1), (2, .int v2), (3, .int v3)]) hx hb dX4_sunnyCells_77 hl (k := 5) rfl (by rw [li_1]) (Nat.le_of_ble_eq_true rfl) rfl (fun ls hl => ?_)
          refine lv_goto (tgt := 27) hx hb dX4_sunnyCells_80 (by decide) ?_
          exact ih v3 (v4 + 1) _ _ _ hP hD hS (lv_sub hl [2, 3, 4, 5, 0] rfl) h
        · have h := if_f c11 h
          refine lv_iload_n hx hb dX4_sunnyCells_53 rfl (lv_at hl 2 rfl) ?_
          refine lv_aload hx hb dX4_sunnyCells_54 (lv_at hl 0 rfl) ?_
          refine lv_iconst (v := 3) hx hb dX4_sunnyCells_56 li_3 ?_
          refine va_iald hx hb hG.1 hP 7 0 rfl rfl (vpi (by decide)) dX4_sunnyCells_57 ?_
          refine lv_icmp_gt (tgt := 77) hx hb dX4_sunnyCells_58 (by decide) (fun c12 => ?_) (fun c12 => ?_)
          · have h := if_t c12 h
            refine lv_iinc (v := v4 + 1) (lv' := [(4, .int (v4 + 1)), (5, .ref (dd 21)), (0, .ref (dd 0)), (1, .int v1), (2, .int v2), (3, .int v3)]) hx hb dX4_sunnyCells_77 hl (k := 5) rfl (by rw [li_1]) (Nat.le_of_ble_eq_true rfl) rfl (fun ls hl => ?_)
            refine lv_goto (tgt := 27) hx hb dX4_sunnyCells_80 (by decide) ?_
            exact ih v3 (v4 + 1) _ _ _ hP hD hS (lv_sub hl [2, 3, 4, 5, 0] rfl) h
          · have h := if_f c12 h
            refine lv_iload_n hx hb dX4_sunnyCells_61 rfl (lv_at hl 4 rfl) ?_
            refine lv_aload hx hb dX4_sunnyCells_62 (lv_at hl 0 rfl) ?_
            refine lv_iconst (v := 0) hx hb dX4_sunnyCells_64 li_0 ?_
            refine va_iald hx hb hG.1 hP 7 0 rfl rfl (vpi (by decide)) dX4_sunnyCells_65 ?_
            refine lv_aload hx hb dX4_sunnyCells_66 (lv_at hl 0 rfl) ?_
            refine lv_iconst (v := 1) hx hb dX4_sunnyCells_68 li_1 ?_
            refine va_iald hx hb hG.1 hP 7 0 rfl rfl (vpi (by decide)) dX4_sunnyCells_69 ?_
            obtain ⟨r13, hc14, h⟩ := bd_ex h
            refine sl_SN K (mX10_columnBits l G F (σdd.2.1 21 (0 : Int32).toNatClampNeg) (σdd.2.1 21 (1 : Int32).toNatClampNeg) hc14) tw_3_133 tw_1_1 tw_3_132 tw_3_141 cdX10_columnBits ⟨Nat.le_of_ble_eq_true rfl, Nat.le_of_ble_eq_true rfl⟩ hP hD hS [] rfl rfl rfl rfl hl.1 (Nat.le_of_ble_eq_true rfl) ⟨Nat.zero_le _, Nat.zero_le _⟩ dX4_sunnyCells_70 (fun H locs hP hD hS => ?_)
            have hP : va_P G.1 vwCl (List.flatten [wD G dd σdd]) H := hP
            have hD : va_D A (List.flatten [wD G dd σdd]) := hD
            refine lv_iconst (v := -1) hx hb dX4_sunnyCells_73 li_m1 ?_
            refine lv_ixor hx hb dX4_sunnyCells_74 ?_
            refine lv_iand hx hb dX4_sunnyCells_75 ?_
            refine lv_istore_n (lv' := [(3, .int (v3 &&& (r13 ^^^ (-1 : Int32)))), (5, .ref (dd 21)), (0, .ref (dd 0)), (1, .int v1), (2, .int v2), (4, .int v4)]) hx hb dX4_sunnyCells_76 rfl hl (Nat.le_of_ble_eq_true rfl) rfl (fun ls hl => ?_)
            refine lv_iinc (v := v4 + 1) (lv' := [(4, .int (v4 + 1)), (3, .int (v3 &&& (r13 ^^^ (-1 : Int32)))), (5, .ref (dd 21)), (0, .ref (dd 0)), (1, .int v1), (2, .int v2)]) hx hb dX4_sunnyCells_77 hl (k := 5) rfl (by rw [li_1]) (Nat.le_of_ble_eq_true rfl) rfl (fun ls hl => ?_)
            refine lv_goto (tgt := 27) hx hb dX4_sunnyCells_80 (by decide) ?_
            exact ih (v3 &&& (r13 ^^^ (-1 : Int32))) (v4 + 1) _ _ _ hP hD hS (lv_sub hl [3, 4, 5, 1, 0] rfl) h
      have h := if_f c10 h
      by_cases c15 : v4 = 2
      · have h := if_t c15 h
        refine my_aald hx hb hG.1 hP 5 4 rfl rfl (b := dd 22) rfl (by rw [c15]; exact vpi (by decide)) (by rw [c15]; rfl) dX4_sunnyCells_42 ?_
        refine lv_astore (lv' := [(5, .ref (dd 22)), (0, .ref (dd 0)), (1, .int v1), (2, .int v2), (3, .int v3), (4, .int v4)]) hx hb dX4_sunnyCells_43 hl (Nat.le_of_ble_eq_true rfl) rfl (fun ls hl => ?_)
        refine lv_iload_n hx hb dX4_sunnyCells_45 rfl (lv_at hl 2 rfl) ?_
        refine lv_aload hx hb dX4_sunnyCells_46 (lv_at hl 0 rfl) ?_
        refine lv_iconst (v := 2) hx hb dX4_sunnyCells_48 li_2 ?_
        refine va_iald hx hb hG.1 hP 8 0 rfl rfl (vpi (by decide)) dX4_sunnyCells_49 ?_
        refine lv_icmp_lt (tgt := 77) hx hb dX4_sunnyCells_50 (by decide) (fun c16 => ?_) (fun c16 => ?_)
        · have h := if_t c16 h
          refine lv_iinc (v := v4 + 1) (lv' := [(4, .int (v4 + 1)), (5, .ref (dd 22)), (0, .ref (dd 0)), (1, .int v1), (2, .int v2), (3, .int v3)]) hx hb dX4_sunnyCells_77 hl (k := 5) rfl (by rw [li_1]) (Nat.le_of_ble_eq_true rfl) rfl (fun ls hl => ?_)
          refine lv_goto (tgt := 27) hx hb dX4_sunnyCells_80 (by decide) ?_
          exact ih v3 (v4 + 1) _ _ _ hP hD hS (lv_sub hl [2, 3, 4, 5, 0] rfl) h
        · have h := if_f c16 h
          refine lv_iload_n hx hb dX4_sunnyCells_53 rfl (lv_at hl 2 rfl) ?_
          refine lv_aload hx hb dX4_sunnyCells_54 (lv_at hl 0 rfl) ?_
          refine lv_iconst (v := 3) hx hb dX4_sunnyCells_56 li_3 ?_
          refine va_iald hx hb hG.1 hP 8 0 rfl rfl (vpi (by decide)) dX4_sunnyCells_57 ?_
          refine lv_icmp_gt (tgt := 77) hx hb dX4_sunnyCells_58 (by decide) (fun c17 => ?_) (fun c17 => ?_)
          · have h := if_t c17 h
            refine lv_iinc (v := v4 + 1) (lv' := [(4, .int (v4 + 1)), (5, .ref (dd 22)), (0, .ref (dd 0)), (1, .int v1), (2, .int v2), (3, .int v3)]) hx hb dX4_sunnyCells_77 hl (k := 5) rfl (by rw [li_1]) (Nat.le_of_ble_eq_true rfl) rfl (fun ls hl => ?_)
            refine lv_goto (tgt := 27) hx hb dX4_sunnyCells_80 (by decide) ?_
            exact ih v3 (v4 + 1) _ _ _ hP hD hS (lv_sub hl [2, 3, 4, 5, 0] rfl) h
          · have h := if_f c17 h
            refine lv_iload_n hx hb dX4_sunnyCells_61 rfl (lv_at hl 4 rfl) ?_
            refine lv_aload hx hb dX4_sunnyCells_62 (lv_at hl 0 rfl) ?_
            refine lv_iconst (v := 0) hx hb dX4_sunnyCells_64 li_0 ?_
            refine va_iald hx hb hG.1 hP 8 0 rfl rfl (vpi (by decide)) dX4_sunnyCells_65 ?_
            refine lv_aload hx hb dX4_sunnyCells_66 (lv_at hl 0 rfl) ?_
            refine lv_iconst (v := 1) hx hb dX4_sunnyCells_68 li_1 ?_
            refine va_iald hx hb hG.1 hP 8 0 rfl rfl (vpi (by decide)) dX4_sunnyCells_69 ?_
            obtain ⟨r18, hc19, h⟩ := bd_ex h
            refine sl_SN K (mX10_columnBits l G F (σdd.2.1 22 (0 : Int32).toNatClampNeg) (σdd.2.1 22 (1 : Int32).toNatClampNeg) hc19) tw_3_133 tw_1_1 tw_3_132 tw_3_141 cdX10_columnBits ⟨Nat.le_of_ble_eq_true rfl, Nat.le_of_ble_eq_true rfl⟩ hP hD hS [] rfl rfl rfl rfl hl.1 (Nat.le_of_ble_eq_true rfl) ⟨Nat.zero_le _, Nat.zero_le _⟩ dX4_sunnyCells_70 (fun H locs hP hD hS => ?_)
            have hP : va_P G.1 vwCl (List.flatten [wD G dd σdd]) H := hP
            have hD : va_D A (List.flatten [wD G dd σdd]) := hD
            refine lv_iconst (v := -1) hx hb dX4_sunnyCells_73 li_m1 ?_
            refine lv_ixor hx hb dX4_sunnyCells_74 ?_
            refine lv_iand hx hb dX4_sunnyCells_75 ?_
            refine lv_istore_n (lv' := [(3, .int (v3 &&& (r18 ^^^ (-1 : Int32)))), (5, .ref (dd 22)), (0, .ref (dd 0)), (1, .int v1), (2, .int v2), (4, .int v4)]) hx hb dX4_sunnyCells_76 rfl hl (Nat.le_of_ble_eq_true rfl) rfl (fun ls hl => ?_)
            refine lv_iinc (v := v4 + 1) (lv' := [(4, .int (v4 + 1)), (3, .int (v3 &&& (r18 ^^^ (-1 : Int32)))), (5, .ref (dd 22)), (0, .ref (dd 0)), (1, .int v1), (2, .int v2)]) hx hb dX4_sunnyCells_77 hl (k := 5) rfl (by rw [li_1]) (Nat.le_of_ble_eq_true rfl) rfl (fun ls hl => ?_)
            refine lv_goto (tgt := 27) hx hb dX4_sunnyCells_80 (by decide) ?_
            exact ih (v3 &&& (r18 ^^^ (-1 : Int32))) (v4 + 1) _ _ _ hP hD hS (lv_sub hl [3, 4, 5, 1, 0] rfl) h
      have h := if_f c15 h
      by_cases c20 : v4 = 3
      · have h := if_t c20 h
        refine my_aald hx hb hG.1 hP 5 4 rfl rfl (b := dd 23) rfl (by rw [c20]; exact vpi (by decide)) (by rw [c20]; rfl) dX4_sunnyCells_42 ?_
        refine lv_astore (lv' := [(5, .ref (dd 23)), (0, .ref (dd 0)), (1, .int v1), (2, .int v2), (3, .int v3), (4, .int v4)]) hx hb dX4_sunnyCells_43 hl (Nat.le_of_ble_eq_true rfl) rfl (fun ls hl => ?_)
        refine lv_iload_n hx hb dX4_sunnyCells_45 rfl (lv_at hl 2 rfl) ?_
        refine lv_aload hx hb dX4_sunnyCells_46 (lv_at hl 0 rfl) ?_
        refine lv_iconst (v := 2) hx hb dX4_sunnyCells_48 li_2 ?_
        refine va_iald hx hb hG.1 hP 9 0 rfl rfl (vpi (by decide)) dX4_sunnyCells_49 ?_
        refine lv_icmp_lt (tgt := 77) hx hb dX4_sunnyCells_50 (by decide) (fun c21 => ?_) (fun c21 => ?_)
        · have h := if_t c21 h
          refine lv_iinc (v := v4 + 1) (lv' := [(4, .int (v4 + 1)), (5, .ref (dd 23)), (0, .ref (dd 0)), (1, .int v1), (2, .int v2), (3, .int v3)]) hx hb dX4_sunnyCells_77 hl (k := 5) rfl (by rw [li_1]) (Nat.le_of_ble_eq_true rfl) rfl (fun ls hl => ?_)
          refine lv_goto (tgt := 27) hx hb dX4_sunnyCells_80 (by decide) ?_
          exact ih v3 (v4 + 1) _ _ _ hP hD hS (lv_sub hl [2, 3, 4, 5, 0] rfl) h
        · have h := if_f c21 h
          refine lv_iload_n hx hb dX4_sunnyCells_53 rfl (lv_at hl 2 rfl) ?_
          refine lv_aload hx hb dX4_sunnyCells_54 (lv_at hl 0 rfl) ?_
          refine lv_iconst (v := 3) hx hb dX4_sunnyCells_56 li_3 ?_
          refine va_iald hx hb hG.1 hP 9 0 rfl rfl (vpi (by decide)) dX4_sunnyCells_57 ?_
          refine lv_icmp_gt (tgt := 77) hx hb dX4_sunnyCells_58 (by decide) (fun c22 => ?_) (fun c22 => ?_)
          · have h := if_t c22 h
            refine lv_iinc (v := v4 + 1) (lv' := [(4, .int (v4 + 1)), (5, .ref (dd 23)), (0, .ref (dd 0)), (1, .int v1), (2, .int v2), (3, .int v3)]) hx hb dX4_sunnyCells_77 hl (k := 5) rfl (by rw [li_1]) (Nat.le_of_ble_eq_true rfl) rfl (fun ls hl => ?_)
            refine lv_goto (tgt := 27) hx hb dX4_sunnyCells_80 (by decide) ?_
            exact ih v3 (v4 + 1) _ _ _ hP hD hS (lv_sub hl [2, 3, 4, 5, 0] rfl) h
          · have h := if_f c22 h
            refine lv_iload_n hx hb dX4_sunnyCells_61 rfl (lv_at hl 4 rfl) ?_
            refine lv_aload hx hb dX4_sunnyCells_62 (lv_at hl 0 rfl) ?_
            refine lv_iconst (v := 0) hx hb dX4_sunnyCells_64 li_0 ?_
            refine va_iald hx hb hG.1 hP 9 0 rfl rfl (vpi (by decide)) dX4_sunnyCells_65 ?_
            refine lv_aload hx hb dX4_sunnyCells_66 (lv_at hl 0 rfl) ?_
            refine lv_iconst (v := 1) hx hb dX4_sunnyCells_68 li_1 ?_
            refine va_iald hx hb hG.1 hP 9 0 rfl rfl (vpi (by decide)) dX4_sunnyCells_69 ?_
            obtain ⟨r23, hc24, h⟩ := bd_ex h
            refine sl_SN K (mX10_columnBits l G F (σdd.2.1 23 (0 : Int32).toNatClampNeg) (σdd.2.1 23 (1 : Int32).toNatClampNeg) hc24) tw_3_133 tw_1_1 tw_3_132 tw_3_141 cdX10_columnBits ⟨Nat.le_of_ble_eq_true rfl, Nat.le_of_ble_eq_true rfl⟩ hP hD hS [] rfl rfl rfl rfl hl.1 (Nat.le_of_ble_eq_true rfl) ⟨Nat.zero_le _, Nat.zero_le _⟩ dX4_sunnyCells_70 (fun H locs hP hD hS => ?_)
            have hP : va_P G.1 vwCl (List.flatten [wD G dd σdd]) H := hP
            have hD : va_D A (List.flatten [wD G dd σdd]) := hD
            refine lv_iconst (v := -1) hx hb dX4_sunnyCells_73 li_m1 ?_
            refine lv_ixor hx hb dX4_sunnyCells_74 ?_
            refine lv_iand hx hb dX4_sunnyCells_75 ?_
            refine lv_istore_n (lv' := [(3, .int (v3 &&& (r23 ^^^ (-1 : Int32)))), (5, .ref (dd 23)), (0, .ref (dd 0)), (1, .int v1), (2, .int v2), (4, .int v4)]) hx hb dX4_sunnyCells_76 rfl hl (Nat.le_of_ble_eq_true rfl) rfl (fun ls hl => ?_)
            refine lv_iinc (v := v4 + 1) (lv' := [(4, .int (v4 + 1)), (3, .int (v3 &&& (r23 ^^^ (-1 : Int32)))), (5, .ref (dd 23)), (0, .ref (dd 0)), (1, .int v1), (2, .int v2)]) hx hb dX4_sunnyCells_77 hl (k := 5) rfl (by rw [li_1]) (Nat.le_of_ble_eq_true rfl) rfl (fun ls hl => ?_)
            refine lv_goto (tgt := 27) hx hb dX4_sunnyCells_80 (by decide) ?_
            exact ih (v3 &&& (r23 ^^^ (-1 : Int32))) (v4 + 1) _ _ _ hP hD hS (lv_sub hl [3, 4, 5, 1, 0] rfl) h
      have h := if_f c20 h
      cases h
def fX4_sunnyCells (F : Nat) (σdd : ST) (x1 : Int32) (x2 : Int32) : Option (Int32) :=
  (fX4_hasCliff F σdd x2).bind fun r1 =>
  if r1 = 0 then
    (gX4_sunnyCells_27 F σdd x1 x2 F (1023 : Int32) (0 : Int32)).bind fun z25 =>
      some z25.1
  else
    if x2 < 0 ∨ 6 ≤ x2.toNatClampNeg then none else
    if (σdd.2.1 2 x2.toNatClampNeg) ≤ x1 then
      (gX4_sunnyCells_27 F σdd x1 x2 F (1023 : Int32) (0 : Int32)).bind fun z29 =>
        some z29.1
    else
      some (0 : Int32)
theorem cdX4_sunnyCells : CallD yX4_sunnyCells 2 := by decide +kernel
set_option maxHeartbeats 4000000 in
set_option maxRecDepth 100000 in
theorem mX4_sunnyCells (l : Launch) (G : GP) (F : Nat) (dd : Nat → Nat) (σdd : ST) (x1 : Int32) (x2 : Int32) {r : Int32} (h : fX4_sunnyCells F σdd x1 x2 = some r) : CC l G yX4_sunnyCells cX4_sunnyCells 6 (some .int) 3 [.ref (dd 0), .int x1, .int x2] (List.flatten [wD G dd σdd]) (List.flatten [wD G dd σdd]) (some (.int r)) := by
  refine CC.of (by decide) (Nat.le_of_ble_eq_true rfl) ?_
  intro p e s m below meth c A K hP hD hS ls hl
  obtain ⟨hx, hb, hr, hml, hts, hown, hlocks, hA, hG⟩ := id K
  have hl : lv_has ls 6 [(0, .ref (dd 0)), (1, .int x1), (2, .int x2)] := hl
  unfold fX4_sunnyCells at h
  refine lv_aload_n hx hb dX4_sunnyCells_0 rfl (lv_at hl 0 rfl) ?_
  refine lv_iload_n hx hb dX4_sunnyCells_1 rfl (lv_at hl 2 rfl) ?_
  obtain ⟨r1, hc2, h⟩ := bd_ex h
  refine sl_V (q0 := 0) (ci := 4) (C := RX4) K (mX4_hasCliff l G F dd σdd x2 hc2) tw_2_218 tw_1_6 tw_2_216 tw_2_217 tw_3_140 cdX4_hasCliff ⟨Nat.le_of_ble_eq_true rfl, Nat.le_of_ble_eq_true rfl⟩ hP hD hS [0] rfl rfl rfl rfl rfl rfl rfl hl.1 (Nat.le_of_ble_eq_true rfl) ⟨Nat.zero_le _, Nat.zero_le _⟩ dX4_sunnyCells_2 (fun H locs hP hD hS => ?_)
  have hP : va_P G.1 vwCl (List.flatten [wD G dd σdd]) H := hP
  have hD : va_D A (List.flatten [wD G dd σdd]) := hD
  refine lv_if_eq (tgt := 20) hx hb dX4_sunnyCells_5 (by decide) (fun c3 => ?_) (fun c3 => ?_)
  · have h := if_t c3 h
    refine lv_sipush (v := 1023) hx hb dX4_sunnyCells_20 lh_1023 ?_
    refine lv_istore_n (lv' := [(3, .int (1023 : Int32)), (0, .ref (dd 0)), (1, .int x1), (2, .int x2)]) hx hb dX4_sunnyCells_23 rfl hl (Nat.le_of_ble_eq_true rfl) rfl (fun ls hl => ?_)
    refine lv_iconst (v := 0) hx hb dX4_sunnyCells_24 li_0 ?_
    refine lv_istore (lv' := [(4, .int (0 : Int32)), (3, .int (1023 : Int32)), (0, .ref (dd 0)), (1, .int x1), (2, .int x2)]) hx hb dX4_sunnyCells_25 hl (Nat.le_of_ble_eq_true rfl) rfl (fun ls hl => ?_)
    obtain ⟨z25, hz26, h⟩ := bd_ex h
    refine kX4_sunnyCells_27 K F dd σdd x1 x2 (fun H locs ls hP hD hS hl => ?_) F (1023 : Int32) (0 : Int32) _ _ _ hP hD hS (lv_sub hl [2, 3, 4, 1, 0] rfl) hz26
    refine lv_iload_n hx hb dX4_sunnyCells_83 rfl (lv_at hl 3 rfl) ?_
    cases h
    exact rt_i K hP hD hS dX4_sunnyCells_84
  · have h := if_f c3 h
    refine lv_iload_n hx hb dX4_sunnyCells_8 rfl (lv_at hl 1 rfl) ?_
    refine lv_aload_n hx hb dX4_sunnyCells_9 rfl (lv_at hl 0 rfl) ?_
    refine va_get (D := G.1) (cl := vwCl) (tys := tysG G) (ci := 4) (v := .ref (dd 3)) (C := RX4) (T := TX4) (N := 6) hx hb hts iX4 hown hG.1 hP 0 rfl rfl 2 (Nat.le_of_ble_eq_true rfl) (hts _ tw_1_99) (fun _ h9 => h9) rfl dX4_sunnyCells_10 ?_
    refine lv_iload_n hx hb dX4_sunnyCells_13 rfl (lv_at hl 2 rfl) ?_
    obtain ⟨ck27, h⟩ := ck h
    refine va_iald hx hb hG.1 hP 10 0 rfl rfl ck27 dX4_sunnyCells_14 ?_
    refine lv_icmp_ge (tgt := 20) hx hb dX4_sunnyCells_15 (by decide) (fun c28 => ?_) (fun c28 => ?_)
    · have h := if_t c28 h
      refine lv_sipush (v := 1023) hx hb dX4_sunnyCells_20 lh_1023 ?_
      refine lv_istore_n (lv' := [(3, .int (1023 : Int32)), (0, .ref (dd 0)), (1, .int x1), (2, .int x2)]) hx hb dX4_sunnyCells_23 rfl hl (Nat.le_of_ble_eq_true rfl) rfl (fun ls hl => ?_)
      refine lv_iconst (v := 0) hx hb dX4_sunnyCells_24 li_0 ?_
      refine lv_istore (lv' := [(4, .int (0 : Int32)), (3, .int (1023 : Int32)), (0, .ref (dd 0)), (1, .int x1), (2, .int x2)]) hx hb dX4_sunnyCells_25 hl (Nat.le_of_ble_eq_true rfl) rfl (fun ls hl => ?_)
      obtain ⟨z29, hz30, h⟩ := bd_ex h
      refine kX4_sunnyCells_27 K F dd σdd x1 x2 (fun H locs ls hP hD hS hl => ?_) F (1023 : Int32) (0 : Int32) _ _ _ hP hD hS (lv_sub hl [2, 3, 4, 1, 0] rfl) hz30
      refine lv_iload_n hx hb dX4_sunnyCells_83 rfl (lv_at hl 3 rfl) ?_
      cases h
      exact rt_i K hP hD hS dX4_sunnyCells_84
    · have h := if_f c28 h
      refine lv_iconst (v := 0) hx hb dX4_sunnyCells_18 li_0 ?_
      cases h
      exact rt_i K hP hD hS dX4_sunnyCells_19
def fX4_view (F : Nat) (σdd : ST) (x1 : Int32) (x2 : Int32) : Option (Int32) :=
  if x1 = 0 then
    if x2 < (σdd.2.1 10 (2 : Int32).toNatClampNeg) then
      some (0 : Int32)
    else
      if (σdd.2.1 10 (3 : Int32).toNatClampNeg) < x2 then
        some (0 : Int32)
      else
        (fX10_columnBits F (σdd.2.1 10 (0 : Int32).toNatClampNeg) (σdd.2.1 10 (1 : Int32).toNatClampNeg)).bind fun r4 =>
        some r4
  else
  if x1 = 1 then
    if x2 < (σdd.2.1 11 (2 : Int32).toNatClampNeg) then
      some (0 : Int32)
    else
      if (σdd.2.1 11 (3 : Int32).toNatClampNeg) < x2 then
        some (0 : Int32)
      else
        (fX10_columnBits F (σdd.2.1 11 (0 : Int32).toNatClampNeg) (σdd.2.1 11 (1 : Int32).toNatClampNeg)).bind fun r9 =>
        some r9
  else
  if x1 = 2 then
    if x2 < (σdd.2.1 12 (2 : Int32).toNatClampNeg) then
      some (0 : Int32)
    else
      if (σdd.2.1 12 (3 : Int32).toNatClampNeg) < x2 then
        some (0 : Int32)
      else
        (fX10_columnBits F (σdd.2.1 12 (0 : Int32).toNatClampNeg) (σdd.2.1 12 (1 : Int32).toNatClampNeg)).bind fun r14 =>
        some r14
  else
    none
theorem cdX4_view : CallD yX4_view 2 := by decide +kernel
set_option maxHeartbeats 4000000 in
set_option maxRecDepth 100000 in
theorem mX4_view (l : Launch) (G : GP) (F : Nat) (dd : Nat → Nat) (σdd : ST) (x1 : Int32) (x2 : Int32) {r : Int32} (h : fX4_view F σdd x1 x2 = some r) : CC l G yX4_view cX4_view 4 (some .int) 3 [.ref (dd 0), .int x1, .int x2] (List.flatten [wD G dd σdd]) (List.flatten [wD G dd σdd]) (some (.int r)) := by
  refine CC.of (by decide) (Nat.le_of_ble_eq_true rfl) ?_
  intro p e s m below meth c A K hP hD hS ls hl
  obtain ⟨hx, hb, hr, hml, hts, hown, hlocks, hA, hG⟩ := id K
  have hl : lv_has ls 4 [(0, .ref (dd 0)), (1, .int x1), (2, .int x2)] := hl
  unfold fX4_view at h
  refine lv_aload_n hx hb dX4_view_0 rfl (lv_at hl 0 rfl) ?_
  refine va_get (D := G.1) (cl := vwCl) (tys := tysG G) (ci := 4) (v := .ref (dd 1)) (C := RX4) (T := TX4) (N := 6) hx hb hts iX4 hown hG.1 hP 0 rfl rfl 0 (Nat.le_of_ble_eq_true rfl) (hts _ tw_1_96) (fun _ h9 => h9) rfl dX4_view_1 ?_
  refine lv_iload_n hx hb dX4_view_4 rfl (lv_at hl 1 rfl) ?_
  by_cases c1 : x1 = 0
  · have h := if_t c1 h
    refine my_aald hx hb hG.1 hP 1 4 rfl rfl (b := dd 10) rfl (by rw [c1]; exact vpi (by decide)) (by rw [c1]; rfl) dX4_view_5 ?_
    refine lv_astore_n (lv' := [(3, .ref (dd 10)), (0, .ref (dd 0)), (1, .int x1), (2, .int x2)]) hx hb dX4_view_6 rfl hl (Nat.le_of_ble_eq_true rfl) rfl (fun ls hl => ?_)
    refine lv_iload_n hx hb dX4_view_7 rfl (lv_at hl 3 rfl) ?_
    refine lv_aload_n hx hb dX4_view_8 rfl (lv_at hl 0 rfl) ?_
    refine lv_iconst (v := 2) hx hb dX4_view_9 li_2 ?_
    refine va_iald hx hb hG.1 hP 2 0 rfl rfl (vpi (by decide)) dX4_view_10 ?_
    refine lv_icmp_lt (tgt := 33) hx hb dX4_view_11 (by decide) (fun c2 => ?_) (fun c2 => ?_)
    · have h := if_t c2 h
      refine lv_iconst (v := 0) hx hb dX4_view_33 li_0 ?_
      cases h
      exact rt_i K hP hD hS dX4_view_34
    · have h := if_f c2 h
      refine lv_iload_n hx hb dX4_view_14 rfl (lv_at hl 3 rfl) ?_
      refine lv_aload_n hx hb dX4_view_15 rfl (lv_at hl 0 rfl) ?_
      refine lv_iconst (v := 3) hx hb dX4_view_16 li_3 ?_
      refine va_iald hx hb hG.1 hP 2 0 rfl rfl (vpi (by decide)) dX4_view_17 ?_
      refine lv_icmp_gt (tgt := 33) hx hb dX4_view_18 (by decide) (fun c3 => ?_) (fun c3 => ?_)
      · have h := if_t c3 h
        refine lv_iconst (v := 0) hx hb dX4_view_33 li_0 ?_
        cases h
        exact rt_i K hP hD hS dX4_view_34
      · have h := if_f c3 h
        refine lv_aload_n hx hb dX4_view_21 rfl (lv_at hl 0 rfl) ?_
        refine lv_iconst (v := 0) hx hb dX4_view_22 li_0 ?_
        refine va_iald hx hb hG.1 hP 2 0 rfl rfl (vpi (by decide)) dX4_view_23 ?_
        refine lv_aload_n hx hb dX4_view_24 rfl (lv_at hl 0 rfl) ?_
        refine lv_iconst (v := 1) hx hb dX4_view_25 li_1 ?_
        refine va_iald hx hb hG.1 hP 2 0 rfl rfl (vpi (by decide)) dX4_view_26 ?_
        obtain ⟨r4, hc5, h⟩ := bd_ex h
        refine sl_SN K (mX10_columnBits l G F (σdd.2.1 10 (0 : Int32).toNatClampNeg) (σdd.2.1 10 (1 : Int32).toNatClampNeg) hc5) tw_3_133 tw_1_1 tw_3_132 tw_3_141 cdX10_columnBits ⟨Nat.le_of_ble_eq_true rfl, Nat.le_of_ble_eq_true rfl⟩ hP hD hS [] rfl rfl rfl rfl hl.1 (Nat.le_of_ble_eq_true rfl) ⟨Nat.zero_le _, Nat.zero_le _⟩ dX4_view_27 (fun H locs hP hD hS => ?_)
        have hP : va_P G.1 vwCl (List.flatten [wD G dd σdd]) H := hP
        have hD : va_D A (List.flatten [wD G dd σdd]) := hD
        refine lv_goto (tgt := 34) hx hb dX4_view_30 (by decide) ?_
        cases h
        exact rt_i K hP hD hS dX4_view_34
  have h := if_f c1 h
  by_cases c6 : x1 = 1
  · have h := if_t c6 h
    refine my_aald hx hb hG.1 hP 1 4 rfl rfl (b := dd 11) rfl (by rw [c6]; exact vpi (by decide)) (by rw [c6]; rfl) dX4_view_5 ?_
    refine lv_astore_n (lv' := [(3, .ref (dd 11)), (0, .ref (dd 0)), (1, .int x1), (2, .int x2)]) hx hb dX4_view_6 rfl hl (Nat.le_of_ble_eq_true rfl) rfl (fun ls hl => ?_)
    refine lv_iload_n hx hb dX4_view_7 rfl (lv_at hl 3 rfl) ?_
    refine lv_aload_n hx hb dX4_view_8 rfl (lv_at hl 0 rfl) ?_
    refine lv_iconst (v := 2) hx hb dX4_view_9 li_2 ?_
    refine va_iald hx hb hG.1 hP 3 0 rfl rfl (vpi (by decide)) dX4_view_10 ?_
    refine lv_icmp_lt (tgt := 33) hx hb dX4_view_11 (by decide) (fun c7 => ?_) (fun c7 => ?_)
    · have h := if_t c7 h
      refine lv_iconst (v := 0) hx hb dX4_view_33 li_0 ?_
      cases h
      exact rt_i K hP hD hS dX4_view_34
    · have h := if_f c7 h
      refine lv_iload_n hx hb dX4_view_14 rfl (lv_at hl 3 rfl) ?_
      refine lv_aload_n hx hb dX4_view_15 rfl (lv_at hl 0 rfl) ?_
      refine lv_iconst (v := 3) hx hb dX4_view_16 li_3 ?_
      refine va_iald hx hb hG.1 hP 3 0 rfl rfl (vpi (by decide)) dX4_view_17 ?_
      refine lv_icmp_gt (tgt := 33) hx hb dX4_view_18 (by decide) (fun c8 => ?_) (fun c8 => ?_)
      · have h := if_t c8 h
        refine lv_iconst (v := 0) hx hb dX4_view_33 li_0 ?_
        cases h
        exact rt_i K hP hD hS dX4_view_34
      · have h := if_f c8 h
        refine lv_aload_n hx hb dX4_view_21 rfl (lv_at hl 0 rfl) ?_
        refine lv_iconst (v := 0) hx hb dX4_view_22 li_0 ?_
        refine va_iald hx hb hG.1 hP 3 0 rfl rfl (vpi (by decide)) dX4_view_23 ?_
        refine lv_aload_n hx hb dX4_view_24 rfl (lv_at hl 0 rfl) ?_
        refine lv_iconst (v := 1) hx hb dX4_view_25 li_1 ?_
        refine va_iald hx hb hG.1 hP 3 0 rfl rfl (vpi (by decide)) dX4_view_26 ?_
        obtain ⟨r9, hc10, h⟩ := bd_ex h
        refine sl_SN K (mX10_columnBits l G F (σdd.2.1 11 (0 : Int32).toNatClampNeg) (σdd.2.1 11 (1 : Int32).toNatClampNeg) hc10) tw_3_133 tw_1_1 tw_3_132 tw_3_141 cdX10_columnBits ⟨Nat.le_of_ble_eq_true rfl, Nat.le_of_ble_eq_true rfl⟩ hP hD hS [] rfl rfl rfl rfl hl.1 (Nat.le_of_ble_eq_true rfl) ⟨Nat.zero_le _, Nat.zero_le _⟩ dX4_view_27 (fun H locs hP hD hS => ?_)
        have hP : va_P G.1 vwCl (List.flatten [wD G dd σdd]) H := hP
        have hD : va_D A (List.flatten [wD G dd σdd]) := hD
        refine lv_goto (tgt := 34) hx hb dX4_view_30 (by decide) ?_
        cases h
        exact rt_i K hP hD hS dX4_view_34
  have h := if_f c6 h
  by_cases c11 : x1 = 2
  · have h := if_t c11 h
    refine my_aald hx hb hG.1 hP 1 4 rfl rfl (b := dd 12) rfl (by rw [c11]; exact vpi (by decide)) (by rw [c11]; rfl) dX4_view_5 ?_
    refine lv_astore_n (lv' := [(3, .ref (dd 12)), (0, .ref (dd 0)), (1, .int x1), (2, .int x2)]) hx hb dX4_view_6 rfl hl (Nat.le_of_ble_eq_true rfl) rfl (fun ls hl => ?_)
    refine lv_iload_n hx hb dX4_view_7 rfl (lv_at hl 3 rfl) ?_
    refine lv_aload_n hx hb dX4_view_8 rfl (lv_at hl 0 rfl) ?_
    refine lv_iconst (v := 2) hx hb dX4_view_9 li_2 ?_
    refine va_iald hx hb hG.1 hP 4 0 rfl rfl (vpi (by decide)) dX4_view_10 ?_
    refine lv_icmp_lt (tgt := 33) hx hb dX4_view_11 (by decide) (fun c12 => ?_) (fun c12 => ?_)
    · have h := if_t c12 h
      refine lv_iconst (v := 0) hx hb dX4_view_33 li_0 ?_
      cases h
      exact rt_i K hP hD hS dX4_view_34
    · have h := if_f c12 h
      refine lv_iload_n hx hb dX4_view_14 rfl (lv_at hl 3 rfl) ?_
      refine lv_aload_n hx hb dX4_view_15 rfl (lv_at hl 0 rfl) ?_
      refine lv_iconst (v := 3) hx hb dX4_view_16 li_3 ?_
      refine va_iald hx hb hG.1 hP 4 0 rfl rfl (vpi (by decide)) dX4_view_17 ?_
      refine lv_icmp_gt (tgt := 33) hx hb dX4_view_18 (by decide) (fun c13 => ?_) (fun c13 => ?_)
      · have h := if_t c13 h
        refine lv_iconst (v := 0) hx hb dX4_view_33 li_0 ?_
        cases h
        exact rt_i K hP hD hS dX4_view_34
      · have h := if_f c13 h
        refine lv_aload_n hx hb dX4_view_21 rfl (lv_at hl 0 rfl) ?_
        refine lv_iconst (v := 0) hx hb dX4_view_22 li_0 ?_
        refine va_iald hx hb hG.1 hP 4 0 rfl rfl (vpi (by decide)) dX4_view_23 ?_
        refine lv_aload_n hx hb dX4_view_24 rfl (lv_at hl 0 rfl) ?_
        refine lv_iconst (v := 1) hx hb dX4_view_25 li_1 ?_
        refine va_iald hx hb hG.1 hP 4 0 rfl rfl (vpi (by decide)) dX4_view_26 ?_
        obtain ⟨r14, hc15, h⟩ := bd_ex h
        refine sl_SN K (mX10_columnBits l G F (σdd.2.1 12 (0 : Int32).toNatClampNeg) (σdd.2.1 12 (1 : Int32).toNatClampNeg) hc15) tw_3_133 tw_1_1 tw_3_132 tw_3_141 cdX10_columnBits ⟨Nat.le_of_ble_eq_true rfl, Nat.le_of_ble_eq_true rfl⟩ hP hD hS [] rfl rfl rfl rfl hl.1 (Nat.le_of_ble_eq_true rfl) ⟨Nat.zero_le _, Nat.zero_le _⟩ dX4_view_27 (fun H locs hP hD hS => ?_)
        have hP : va_P G.1 vwCl (List.flatten [wD G dd σdd]) H := hP
        have hD : va_D A (List.flatten [wD G dd σdd]) := hD
        refine lv_goto (tgt := 34) hx hb dX4_view_30 (by decide) ?_
        cases h
        exact rt_i K hP hD hS dX4_view_34
  have h := if_f c11 h
  cases h
def fX4_addHill (F : Nat) (σdd : ST) (σqq : (Nat → Int32))  : Option (ST) :=
  if (3 : Int32) ≤ (σdd.1 3) then
    some σdd
  else
    if (σdd.1 3) = 0 then
      (fX4_copyFour F σqq (σdd.2.1 10)).bind fun r3 =>
      nm (sI (sW σdd 10 r3) 3 (((sW σdd 10 r3).1 3) + (1 : Int32))) fun (s5 : ST) =>
      some s5
    else
    if (σdd.1 3) = 1 then
      (fX4_copyFour F σqq (σdd.2.1 11)).bind fun r8 =>
      nm (sI (sW σdd 11 r8) 3 (((sW σdd 11 r8).1 3) + (1 : Int32))) fun (s10 : ST) =>
      some s10
    else
    if (σdd.1 3) = 2 then
      (fX4_copyFour F σqq (σdd.2.1 12)).bind fun r13 =>
      nm (sI (sW σdd 12 r13) 3 (((sW σdd 12 r13).1 3) + (1 : Int32))) fun (s15 : ST) =>
      some s15
    else
      none
theorem cdX4_addHill : CallD yX4_addHill 1 := by decide +kernel
set_option maxHeartbeats 4000000 in
set_option maxRecDepth 100000 in
theorem mX4_addHill (l : Launch) (G : GP) (F : Nat) (dd : Nat → Nat) (qq : Nat) (σdd : ST) (σqq : (Nat → Int32))  {r : ST} (h : fX4_addHill F σdd σqq  = some r) : CC l G yX4_addHill cX4_addHill 2 none 3 [.ref (dd 0), .ref qq] (List.flatten [wD G dd σdd, wI G qq σqq]) (List.flatten [wD G dd r, wI G qq σqq]) none := by
  refine CC.of (by decide) (Nat.le_of_ble_eq_true rfl) ?_
  intro p e s m below meth c A K hP hD hS ls hl
  obtain ⟨hx, hb, hr, hml, hts, hown, hlocks, hA, hG⟩ := id K
  have hl : lv_has ls 2 [(0, .ref (dd 0)), (1, .ref qq)] := hl
  unfold fX4_addHill at h
  refine lv_aload_n hx hb dX4_addHill_0 rfl (lv_at hl 0 rfl) ?_
  refine va_get (D := G.1) (cl := vwCl) (tys := tysG G) (ci := 4) (v := .int (σdd.1 3)) (C := RX4) (T := TX4) (N := 6) hx hb hts iX4 hown hG.1 hP 0 rfl rfl 3 (Nat.le_of_ble_eq_true rfl) (hts _ tw_1_100) (fun _ h9 => h9) rfl dX4_addHill_1 ?_
  refine lv_iconst (v := 3) hx hb dX4_addHill_4 li_3 ?_
  refine lv_icmp_ge (tgt := 31) hx hb dX4_addHill_5 (by decide) (fun c1 => ?_) (fun c1 => ?_)
  · have h := if_t c1 h
    cases h
    exact rt_v K hP hD hS dX4_addHill_31
  · have h := if_f c1 h
    refine lv_aload_n hx hb dX4_addHill_8 rfl (lv_at hl 1 rfl) ?_
    refine lv_aload_n hx hb dX4_addHill_9 rfl (lv_at hl 0 rfl) ?_
    refine va_get (D := G.1) (cl := vwCl) (tys := tysG G) (ci := 4) (v := .ref (dd 1)) (C := RX4) (T := TX4) (N := 6) hx hb hts iX4 hown hG.1 hP 0 rfl rfl 0 (Nat.le_of_ble_eq_true rfl) (hts _ tw_1_96) (fun _ h9 => h9) rfl dX4_addHill_10 ?_
    refine lv_aload_n hx hb dX4_addHill_13 rfl (lv_at hl 0 rfl) ?_
    refine va_get (D := G.1) (cl := vwCl) (tys := tysG G) (ci := 4) (v := .int (σdd.1 3)) (C := RX4) (T := TX4) (N := 6) hx hb hts iX4 hown hG.1 hP 0 rfl rfl 3 (Nat.le_of_ble_eq_true rfl) (hts _ tw_1_100) (fun _ h9 => h9) rfl dX4_addHill_14 ?_
    by_cases c2 : (σdd.1 3) = 0
    · have h := if_t c2 h
      refine my_aald hx hb hG.1 hP 1 4 rfl rfl (b := dd 10) rfl (by rw [c2]; exact vpi (by decide)) (by rw [c2]; rfl) dX4_addHill_17 ?_
      obtain ⟨r3, hc4, h⟩ := bd_ex h
      refine cl_S K (mX4_copyFour l G F qq (dd 10) σqq (σdd.2.1 10) hc4) tw_3_10 tw_1_6 tw_3_9 tw_3_8 cdX4_copyFour ⟨Nat.le_of_ble_eq_true rfl, Nat.le_of_ble_eq_true rfl⟩ hP hD hS [11, 2] rfl rfl rfl rfl hl.1 (Nat.le_of_ble_eq_true rfl) ⟨Nat.zero_le _, Nat.zero_le _⟩ dX4_addHill_18 (fun H locs hP hD hS => ?_)
      have hP : va_P G.1 vwCl (List.flatten [wD G dd (sW σdd 10 r3), wI G qq σqq]) H := hP
      have hD : va_D A (List.flatten [wD G dd (sW σdd 10 r3), wI G qq σqq]) := hD
      refine lv_aload_n hx hb dX4_addHill_21 rfl (lv_at hl 0 rfl) ?_
      refine lv_dup hx hb dX4_addHill_22 rfl ?_
      refine va_get (D := G.1) (cl := vwCl) (tys := tysG G) (ci := 4) (v := .int ((sW σdd 10 r3).1 3)) (C := RX4) (T := TX4) (N := 6) hx hb hts iX4 hown hG.1 hP 0 rfl rfl 3 (Nat.le_of_ble_eq_true rfl) (hts _ tw_1_100) (fun _ h9 => h9) rfl dX4_addHill_23 ?_
      refine lv_iconst (v := 1) hx hb dX4_addHill_26 li_1 ?_
      refine lv_iadd hx hb dX4_addHill_27 ?_
      obtain ⟨s5, e6, h⟩ := nm_ex h
      refine va_put (D := G.1) (cl := vwCl) (tys := tysG G) (ci := 4) (v := .int (((sW σdd 10 r3).1 3) + (1 : Int32))) (ty := .int) (C := RX4) (T := TX4) (N := 6) hx hb hts iX4 tyX4 tyX4_ok nmX4 hown hG.1 hP hD hS 0 rfl rfl 3 (Nat.le_of_ble_eq_true rfl) (hts _ tw_1_100) (fun _ h9 => h9) rfl (by decide +kernel) rfl rfl (Nat.le_of_ble_eq_true rfl) dX4_addHill_28 (fun H locs hP hD hS => ?_)
      have hP : va_P G.1 vwCl (List.flatten [wD G dd s5, wI G qq σqq]) H := by rw [e6]; exact hP
      have hD : va_D A (List.flatten [wD G dd s5, wI G qq σqq]) := by rw [e6]; exact hD
      cases h
      exact rt_v K hP hD hS dX4_addHill_31
    have h := if_f c2 h
    by_cases c7 : (σdd.1 3) = 1
    · have h := if_t c7 h
      refine my_aald hx hb hG.1 hP 1 4 rfl rfl (b := dd 11) rfl (by rw [c7]; exact vpi (by decide)) (by rw [c7]; rfl) dX4_addHill_17 ?_
      obtain ⟨r8, hc9, h⟩ := bd_ex h
      refine cl_S K (mX4_copyFour l G F qq (dd 11) σqq (σdd.2.1 11) hc9) tw_3_10 tw_1_6 tw_3_9 tw_3_8 cdX4_copyFour ⟨Nat.le_of_ble_eq_true rfl, Nat.le_of_ble_eq_true rfl⟩ hP hD hS [11, 3] rfl rfl rfl rfl hl.1 (Nat.le_of_ble_eq_true rfl) ⟨Nat.zero_le _, Nat.zero_le _⟩ dX4_addHill_18 (fun H locs hP hD hS => ?_)
      have hP : va_P G.1 vwCl (List.flatten [wD G dd (sW σdd 11 r8), wI G qq σqq]) H := hP
      have hD : va_D A (List.flatten [wD G dd (sW σdd 11 r8), wI G qq σqq]) := hD
      refine lv_aload_n hx hb dX4_addHill_21 rfl (lv_at hl 0 rfl) ?_
      refine lv_dup hx hb dX4_addHill_22 rfl ?_
      refine va_get (D := G.1) (cl := vwCl) (tys := tysG G) (ci := 4) (v := .int ((sW σdd 11 r8).1 3)) (C := RX4) (T := TX4) (N := 6) hx hb hts iX4 hown hG.1 hP 0 rfl rfl 3 (Nat.le_of_ble_eq_true rfl) (hts _ tw_1_100) (fun _ h9 => h9) rfl dX4_addHill_23 ?_
      refine lv_iconst (v := 1) hx hb dX4_addHill_26 li_1 ?_
      refine lv_iadd hx hb dX4_addHill_27 ?_
      obtain ⟨s10, e11, h⟩ := nm_ex h
      refine va_put (D := G.1) (cl := vwCl) (tys := tysG G) (ci := 4) (v := .int (((sW σdd 11 r8).1 3) + (1 : Int32))) (ty := .int) (C := RX4) (T := TX4) (N := 6) hx hb hts iX4 tyX4 tyX4_ok nmX4 hown hG.1 hP hD hS 0 rfl rfl 3 (Nat.le_of_ble_eq_true rfl) (hts _ tw_1_100) (fun _ h9 => h9) rfl (by decide +kernel) rfl rfl (Nat.le_of_ble_eq_true rfl) dX4_addHill_28 (fun H locs hP hD hS => ?_)
      have hP : va_P G.1 vwCl (List.flatten [wD G dd s10, wI G qq σqq]) H := by rw [e11]; exact hP
      have hD : va_D A (List.flatten [wD G dd s10, wI G qq σqq]) := by rw [e11]; exact hD
      cases h
      exact rt_v K hP hD hS dX4_addHill_31
    have h := if_f c7 h
    by_cases c12 : (σdd.1 3) = 2
    · have h := if_t c12 h
      refine my_aald hx hb hG.1 hP 1 4 rfl rfl (b := dd 12) rfl (by rw [c12]; exact vpi (by decide)) (by rw [c12]; rfl) dX4_addHill_17 ?_
      obtain ⟨r13, hc14, h⟩ := bd_ex h
      refine cl_S K (mX4_copyFour l G F qq (dd 12) σqq (σdd.2.1 12) hc14) tw_3_10 tw_1_6 tw_3_9 tw_3_8 cdX4_copyFour ⟨Nat.le_of_ble_eq_true rfl, Nat.le_of_ble_eq_true rfl⟩ hP hD hS [11, 4] rfl rfl rfl rfl hl.1 (Nat.le_of_ble_eq_true rfl) ⟨Nat.zero_le _, Nat.zero_le _⟩ dX4_addHill_18 (fun H locs hP hD hS => ?_)
      have hP : va_P G.1 vwCl (List.flatten [wD G dd (sW σdd 12 r13), wI G qq σqq]) H := hP
      have hD : va_D A (List.flatten [wD G dd (sW σdd 12 r13), wI G qq σqq]) := hD
      refine lv_aload_n hx hb dX4_addHill_21 rfl (lv_at hl 0 rfl) ?_
      refine lv_dup hx hb dX4_addHill_22 rfl ?_
      refine va_get (D := G.1) (cl := vwCl) (tys := tysG G) (ci := 4) (v := .int ((sW σdd 12 r13).1 3)) (C := RX4) (T := TX4) (N := 6) hx hb hts iX4 hown hG.1 hP 0 rfl rfl 3 (Nat.le_of_ble_eq_true rfl) (hts _ tw_1_100) (fun _ h9 => h9) rfl dX4_addHill_23 ?_
      refine lv_iconst (v := 1) hx hb dX4_addHill_26 li_1 ?_
      refine lv_iadd hx hb dX4_addHill_27 ?_
      obtain ⟨s15, e16, h⟩ := nm_ex h
      refine va_put (D := G.1) (cl := vwCl) (tys := tysG G) (ci := 4) (v := .int (((sW σdd 12 r13).1 3) + (1 : Int32))) (ty := .int) (C := RX4) (T := TX4) (N := 6) hx hb hts iX4 tyX4 tyX4_ok nmX4 hown hG.1 hP hD hS 0 rfl rfl 3 (Nat.le_of_ble_eq_true rfl) (hts _ tw_1_100) (fun _ h9 => h9) rfl (by decide +kernel) rfl rfl (Nat.le_of_ble_eq_true rfl) dX4_addHill_28 (fun H locs hP hD hS => ?_)
      have hP : va_P G.1 vwCl (List.flatten [wD G dd s15, wI G qq σqq]) H := by rw [e16]; exact hP
      have hD : va_D A (List.flatten [wD G dd s15, wI G qq σqq]) := by rw [e16]; exact hD
      cases h
      exact rt_v K hP hD hS dX4_addHill_31
    have h := if_f c12 h
    cases h
def fX4_addCloud (F : Nat) (σdd : ST) (σqq : (Nat → Int32))  : Option (ST) :=
  if (4 : Int32) ≤ (σdd.1 4) then
    some σdd
  else
    if (σdd.1 4) = 0 then
      (fX4_copyFour F σqq (σdd.2.1 20)).bind fun r3 =>
      nm (sI (sW σdd 20 r3) 4 (((sW σdd 20 r3).1 4) + (1 : Int32))) fun (s5 : ST) =>
      some s5
    else
    if (σdd.1 4) = 1 then
      (fX4_copyFour F σqq (σdd.2.1 21)).bind fun r8 =>
      nm (sI (sW σdd 21 r8) 4 (((sW σdd 21 r8).1 4) + (1 : Int32))) fun (s10 : ST) =>
      some s10
    else
    if (σdd.1 4) = 2 then
      (fX4_copyFour F σqq (σdd.2.1 22)).bind fun r13 =>
      nm (sI (sW σdd 22 r13) 4 (((sW σdd 22 r13).1 4) + (1 : Int32))) fun (s15 : ST) =>
      some s15
    else
    if (σdd.1 4) = 3 then
      (fX4_copyFour F σqq (σdd.2.1 23)).bind fun r18 =>
      nm (sI (sW σdd 23 r18) 4 (((sW σdd 23 r18).1 4) + (1 : Int32))) fun (s20 : ST) =>
      some s20
    else
      none
theorem cdX4_addCloud : CallD yX4_addCloud 1 := by decide +kernel
set_option maxHeartbeats 4000000 in
set_option maxRecDepth 100000 in
theorem mX4_addCloud (l : Launch) (G : GP) (F : Nat) (dd : Nat → Nat) (qq : Nat) (σdd : ST) (σqq : (Nat → Int32))  {r : ST} (h : fX4_addCloud F σdd σqq  = some r) : CC l G yX4_addCloud cX4_addCloud 2 none 3 [.ref (dd 0), .ref qq] (List.flatten [wD G dd σdd, wI G qq σqq]) (List.flatten [wD G dd r, wI G qq σqq]) none := by
  refine CC.of (by decide) (Nat.le_of_ble_eq_true rfl) ?_
  intro p e s m below meth c A K hP hD hS ls hl
  obtain ⟨hx, hb, hr, hml, hts, hown, hlocks, hA, hG⟩ := id K
  have hl : lv_has ls 2 [(0, .ref (dd 0)), (1, .ref qq)] := hl
  unfold fX4_addCloud at h
  refine lv_aload_n hx hb dX4_addCloud_0 rfl (lv_at hl 0 rfl) ?_
  refine va_get (D := G.1) (cl := vwCl) (tys := tysG G) (ci := 4) (v := .int (σdd.1 4)) (C := RX4) (T := TX4) (N := 6) hx hb hts iX4 hown hG.1 hP 0 rfl rfl 4 (Nat.le_of_ble_eq_true rfl) (hts _ tw_1_104) (fun _ h9 => h9) rfl dX4_addCloud_1 ?_
  refine lv_iconst (v := 4) hx hb dX4_addCloud_4 li_4 ?_
  refine lv_icmp_ge (tgt := 31) hx hb dX4_addCloud_5 (by decide) (fun c1 => ?_) (fun c1 => ?_)
  · have h := if_t c1 h
    cases h
    exact rt_v K hP hD hS dX4_addCloud_31
  · have h := if_f c1 h
    refine lv_aload_n hx hb dX4_addCloud_8 rfl (lv_at hl 1 rfl) ?_
    refine lv_aload_n hx hb dX4_addCloud_9 rfl (lv_at hl 0 rfl) ?_
    refine va_get (D := G.1) (cl := vwCl) (tys := tysG G) (ci := 4) (v := .ref (dd 2)) (C := RX4) (T := TX4) (N := 6) hx hb hts iX4 hown hG.1 hP 0 rfl rfl 1 (Nat.le_of_ble_eq_true rfl) (hts _ tw_1_98) (fun _ h9 => h9) rfl dX4_addCloud_10 ?_
    refine lv_aload_n hx hb dX4_addCloud_13 rfl (lv_at hl 0 rfl) ?_
    refine va_get (D := G.1) (cl := vwCl) (tys := tysG G) (ci := 4) (v := .int (σdd.1 4)) (C := RX4) (T := TX4) (N := 6) hx hb hts iX4 hown hG.1 hP 0 rfl rfl 4 (Nat.le_of_ble_eq_true rfl) (hts _ tw_1_104) (fun _ h9 => h9) rfl dX4_addCloud_14 ?_
    by_cases c2 : (σdd.1 4) = 0
    · have h := if_t c2 h
      refine my_aald hx hb hG.1 hP 5 4 rfl rfl (b := dd 20) rfl (by rw [c2]; exact vpi (by decide)) (by rw [c2]; rfl) dX4_addCloud_17 ?_
      obtain ⟨r3, hc4, h⟩ := bd_ex h
      refine cl_S K (mX4_copyFour l G F qq (dd 20) σqq (σdd.2.1 20) hc4) tw_3_10 tw_1_6 tw_3_9 tw_3_8 cdX4_copyFour ⟨Nat.le_of_ble_eq_true rfl, Nat.le_of_ble_eq_true rfl⟩ hP hD hS [11, 6] rfl rfl rfl rfl hl.1 (Nat.le_of_ble_eq_true rfl) ⟨Nat.zero_le _, Nat.zero_le _⟩ dX4_addCloud_18 (fun H locs hP hD hS => ?_)
      have hP : va_P G.1 vwCl (List.flatten [wD G dd (sW σdd 20 r3), wI G qq σqq]) H := hP
      have hD : va_D A (List.flatten [wD G dd (sW σdd 20 r3), wI G qq σqq]) := hD
      refine lv_aload_n hx hb dX4_addCloud_21 rfl (lv_at hl 0 rfl) ?_
      refine lv_dup hx hb dX4_addCloud_22 rfl ?_
      refine va_get (D := G.1) (cl := vwCl) (tys := tysG G) (ci := 4) (v := .int ((sW σdd 20 r3).1 4)) (C := RX4) (T := TX4) (N := 6) hx hb hts iX4 hown hG.1 hP 0 rfl rfl 4 (Nat.le_of_ble_eq_true rfl) (hts _ tw_1_104) (fun _ h9 => h9) rfl dX4_addCloud_23 ?_
      refine lv_iconst (v := 1) hx hb dX4_addCloud_26 li_1 ?_
      refine lv_iadd hx hb dX4_addCloud_27 ?_
      obtain ⟨s5, e6, h⟩ := nm_ex h
      refine va_put (D := G.1) (cl := vwCl) (tys := tysG G) (ci := 4) (v := .int (((sW σdd 20 r3).1 4) + (1 : Int32))) (ty := .int) (C := RX4) (T := TX4) (N := 6) hx hb hts iX4 tyX4 tyX4_ok nmX4 hown hG.1 hP hD hS 0 rfl rfl 4 (Nat.le_of_ble_eq_true rfl) (hts _ tw_1_104) (fun _ h9 => h9) rfl (by decide +kernel) rfl rfl (Nat.le_of_ble_eq_true rfl) dX4_addCloud_28 (fun H locs hP hD hS => ?_)
      have hP : va_P G.1 vwCl (List.flatten [wD G dd s5, wI G qq σqq]) H := by rw [e6]; exact hP
      have hD : va_D A (List.flatten [wD G dd s5, wI G qq σqq]) := by rw [e6]; exact hD
      cases h
      exact rt_v K hP hD hS dX4_addCloud_31
    have h := if_f c2 h
    by_cases c7 : (σdd.1 4) = 1
    · have h := if_t c7 h
      refine my_aald hx hb hG.1 hP 5 4 rfl rfl (b := dd 21) rfl (by rw [c7]; exact vpi (by decide)) (by rw [c7]; rfl) dX4_addCloud_17 ?_
      obtain ⟨r8, hc9, h⟩ := bd_ex h
      refine cl_S K (mX4_copyFour l G F qq (dd 21) σqq (σdd.2.1 21) hc9) tw_3_10 tw_1_6 tw_3_9 tw_3_8 cdX4_copyFour ⟨Nat.le_of_ble_eq_true rfl, Nat.le_of_ble_eq_true rfl⟩ hP hD hS [11, 7] rfl rfl rfl rfl hl.1 (Nat.le_of_ble_eq_true rfl) ⟨Nat.zero_le _, Nat.zero_le _⟩ dX4_addCloud_18 (fun H locs hP hD hS => ?_)
      have hP : va_P G.1 vwCl (List.flatten [wD G dd (sW σdd 21 r8), wI G qq σqq]) H := hP
      have hD : va_D A (List.flatten [wD G dd (sW σdd 21 r8), wI G qq σqq]) := hD
      refine lv_aload_n hx hb dX4_addCloud_21 rfl (lv_at hl 0 rfl) ?_
      refine lv_dup hx hb dX4_addCloud_22 rfl ?_
      refine va_get (D := G.1) (cl := vwCl) (tys := tysG G) (ci := 4) (v := .int ((sW σdd 21 r8).1 4)) (C := RX4) (T := TX4) (N := 6) hx hb hts iX4 hown hG.1 hP 0 rfl rfl 4 (Nat.le_of_ble_eq_true rfl) (hts _ tw_1_104) (fun _ h9 => h9) rfl dX4_addCloud_23 ?_
      refine lv_iconst (v := 1) hx hb dX4_addCloud_26 li_1 ?_
      refine lv_iadd hx hb dX4_addCloud_27 ?_
      obtain ⟨s10, e11, h⟩ := nm_ex h
      refine va_put (D := G.1) (cl := vwCl) (tys := tysG G) (ci := 4) (v := .int (((sW σdd 21 r8).1 4) + (1 : Int32))) (ty := .int) (C := RX4) (T := TX4) (N := 6) hx hb hts iX4 tyX4 tyX4_ok nmX4 hown hG.1 hP hD hS 0 rfl rfl 4 (Nat.le_of_ble_eq_true rfl) (hts _ tw_1_104) (fun _ h9 => h9) rfl (by decide +kernel) rfl rfl (Nat.le_of_ble_eq_true rfl) dX4_addCloud_28 (fun H locs hP hD hS => ?_)
      have hP : va_P G.1 vwCl (List.flatten [wD G dd s10, wI G qq σqq]) H := by rw [e11]; exact hP
      have hD : va_D A (List.flatten [wD G dd s10, wI G qq σqq]) := by rw [e11]; exact hD
      cases h
      exact rt_v K hP hD hS dX4_addCloud_31
    have h := if_f c7 h
    by_cases c12 : (σdd.1 4) = 2
    · have h := if_t c12 h
      refine my_aald hx hb hG.1 hP 5 4 rfl rfl (b := dd 22) rfl (by rw [c12]; exact vpi (by decide)) (by rw [c12]; rfl) dX4_addCloud_17 ?_
      obtain ⟨r13, hc14, h⟩ := bd_ex h
      refine cl_S K (mX4_copyFour l G F qq (dd 22) σqq (σdd.2.1 22) hc14) tw_3_10 tw_1_6 tw_3_9 tw_3_8 cdX4_copyFour ⟨Nat.le_of_ble_eq_true rfl, Nat.le_of_ble_eq_true rfl⟩ hP hD hS [11, 8] rfl rfl rfl rfl hl.1 (Nat.le_of_ble_eq_true rfl) ⟨Nat.zero_le _, Nat.zero_le _⟩ dX4_addCloud_18 (fun H locs hP hD hS => ?_)
      have hP : va_P G.1 vwCl (List.flatten [wD G dd (sW σdd 22 r13), wI G qq σqq]) H := hP
      have hD : va_D A (List.flatten [wD G dd (sW σdd 22 r13), wI G qq σqq]) := hD
      refine lv_aload_n hx hb dX4_addCloud_21 rfl (lv_at hl 0 rfl) ?_
      refine lv_dup hx hb dX4_addCloud_22 rfl ?_
      refine va_get (D := G.1) (cl := vwCl) (tys := tysG G) (ci := 4) (v := .int ((sW σdd 22 r13).1 4)) (C := RX4) (T := TX4) (N := 6) hx hb hts iX4 hown hG.1 hP 0 rfl rfl 4 (Nat.le_of_ble_eq_true rfl) (hts _ tw_1_104) (fun _ h9 => h9) rfl dX4_addCloud_23 ?_
      refine lv_iconst (v := 1) hx hb dX4_addCloud_26 li_1 ?_
      refine lv_iadd hx hb dX4_addCloud_27 ?_
      obtain ⟨s15, e16, h⟩ := nm_ex h
      refine va_put (D := G.1) (cl := vwCl) (tys := tysG G) (ci := 4) (v := .int (((sW σdd 22 r13).1 4) + (1 : Int32))) (ty := .int) (C := RX4) (T := TX4) (N := 6) hx hb hts iX4 tyX4 tyX4_ok nmX4 hown hG.1 hP hD hS 0 rfl rfl 4 (Nat.le_of_ble_eq_true rfl) (hts _ tw_1_104) (fun _ h9 => h9) rfl (by decide +kernel) rfl rfl (Nat.le_of_ble_eq_true rfl) dX4_addCloud_28 (fun H locs hP hD hS => ?_)
      have hP : va_P G.1 vwCl (List.flatten [wD G dd s15, wI G qq σqq]) H := by rw [e16]; exact hP
      have hD : va_D A (List.flatten [wD G dd s15, wI G qq σqq]) := by rw [e16]; exact hD
      cases h
      exact rt_v K hP hD hS dX4_addCloud_31
    have h := if_f c12 h
    by_cases c17 : (σdd.1 4) = 3
    · have h := if_t c17 h
      refine my_aald hx hb hG.1 hP 5 4 rfl rfl (b := dd 23) rfl (by rw [c17]; exact vpi (by decide)) (by rw [c17]; rfl) dX4_addCloud_17 ?_
      obtain ⟨r18, hc19, h⟩ := bd_ex h
      refine cl_S K (mX4_copyFour l G F qq (dd 23) σqq (σdd.2.1 23) hc19) tw_3_10 tw_1_6 tw_3_9 tw_3_8 cdX4_copyFour ⟨Nat.le_of_ble_eq_true rfl, Nat.le_of_ble_eq_true rfl⟩ hP hD hS [11, 9] rfl rfl rfl rfl hl.1 (Nat.le_of_ble_eq_true rfl) ⟨Nat.zero_le _, Nat.zero_le _⟩ dX4_addCloud_18 (fun H locs hP hD hS => ?_)
      have hP : va_P G.1 vwCl (List.flatten [wD G dd (sW σdd 23 r18), wI G qq σqq]) H := hP
      have hD : va_D A (List.flatten [wD G dd (sW σdd 23 r18), wI G qq σqq]) := hD
      refine lv_aload_n hx hb dX4_addCloud_21 rfl (lv_at hl 0 rfl) ?_
      refine lv_dup hx hb dX4_addCloud_22 rfl ?_
      refine va_get (D := G.1) (cl := vwCl) (tys := tysG G) (ci := 4) (v := .int ((sW σdd 23 r18).1 4)) (C := RX4) (T := TX4) (N := 6) hx hb hts iX4 hown hG.1 hP 0 rfl rfl 4 (Nat.le_of_ble_eq_true rfl) (hts _ tw_1_104) (fun _ h9 => h9) rfl dX4_addCloud_23 ?_
      refine lv_iconst (v := 1) hx hb dX4_addCloud_26 li_1 ?_
      refine lv_iadd hx hb dX4_addCloud_27 ?_
      obtain ⟨s20, e21, h⟩ := nm_ex h
      refine va_put (D := G.1) (cl := vwCl) (tys := tysG G) (ci := 4) (v := .int (((sW σdd 23 r18).1 4) + (1 : Int32))) (ty := .int) (C := RX4) (T := TX4) (N := 6) hx hb hts iX4 tyX4 tyX4_ok nmX4 hown hG.1 hP hD hS 0 rfl rfl 4 (Nat.le_of_ble_eq_true rfl) (hts _ tw_1_104) (fun _ h9 => h9) rfl (by decide +kernel) rfl rfl (Nat.le_of_ble_eq_true rfl) dX4_addCloud_28 (fun H locs hP hD hS => ?_)
      have hP : va_P G.1 vwCl (List.flatten [wD G dd s20, wI G qq σqq]) H := by rw [e21]; exact hP
      have hD : va_D A (List.flatten [wD G dd s20, wI G qq σqq]) := by rw [e21]; exact hD
      cases h
      exact rt_v K hP hD hS dX4_addCloud_31
    have h := if_f c17 h
    cases h
def gbX4_copyFrom_10 (F : Nat) (σoo : ST) (rc : Int32 → ST → Option (Int32 × ST)) (v2 : Int32) (σdd : ST) : Option (Int32 × ST) :=
  if (σdd.1 3) ≤ v2 then
    some (v2, σdd)
  else
    if v2 = 0 then
      (fX4_copyFour F (σoo.2.1 10) (σdd.2.1 10)).bind fun r5 =>
      rc (v2 + 1) (sW σdd 10 r5)
    else
    if v2 = 1 then
      (fX4_copyFour F (σoo.2.1 11) (σdd.2.1 11)).bind fun r8 =>
      rc (v2 + 1) (sW σdd 11 r8)
    else
    if v2 = 2 then
      (fX4_copyFour F (σoo.2.1 12) (σdd.2.1 12)).bind fun r11 =>
      rc (v2 + 1) (sW σdd 12 r11)
    else
      none
def gX4_copyFrom_10 (F : Nat) (σoo : ST) : Nat → Int32 → ST → Option (Int32 × ST)
  | 0, _, _ => none
  | n + 1, v2, σdd => gbX4_copyFrom_10 F σoo (gX4_copyFrom_10 F σoo n) v2 σdd
set_option maxHeartbeats 4000000 in
set_option maxRecDepth 100000 in
theorem kX4_copyFrom_10 {p : Program} {l : Launch} {e : Env} {s : State} {m : MethodId} {args : Array Value} {below : List Frame} {meth : Method} {c : Code} {A : Nat → Prop} {Q : State → Prop} {G : GP} (K : Cx p s m meth c G cX4_copyFrom RX4 3 none args A) (F : Nat) (dd : Nat → Nat) (oo : Nat → Nat) (σoo : ST) {z : Int32 × ST} (kk : ∀ (H : Heap) (locs : List Loc) (ls : Array Slot), va_P G.1 vwCl (List.flatten [wD G dd z.2, wD G oo σoo]) H → va_D A (List.flatten [wD G dd z.2, wD G oo σoo]) → va_S A s.heap H locs → lv_has ls 3 [(0, .ref (dd 0)), (1, .ref (oo 0)), (2, .int z.1)] → W p l e (RM 3) s m args below meth c H locs 0 0 Q (F0 m 39 ls [])) :
    ∀ (n : Nat) (v2 : Int32) (σdd : ST) (H : Heap) (locs : List Loc) (ls : Array Slot), va_P G.1 vwCl (List.flatten [wD G dd σdd, wD G oo σoo]) H → va_D A (List.flatten [wD G dd σdd, wD G oo σoo]) → va_S A s.heap H locs → lv_has ls 3 [(0, .ref (dd 0)), (1, .ref (oo 0)), (2, .int v2)] → gX4_copyFrom_10 F σoo n v2 σdd = some z → W p l e (RM 3) s m args below meth c H locs 0 0 Q (F0 m 10 ls []) := by
  obtain ⟨hx, hb, hr, hml, hts, hown, hlocks, hA, hG⟩ := id K
  intro n
  induction n with
  | zero =>
    intro v2 σdd H locs ls hP hD hS hl h
    have h : none = some z := h
    cases h
  | succ n ih =>
    intro v2 σdd H locs ls hP hD hS hl h
    have h : gbX4_copyFrom_10 F σoo (gX4_copyFrom_10 F σoo n) v2 σdd = some z := h
    unfold gbX4_copyFrom_10 at h
    refine lv_iload_n hx hb dX4_copyFrom_10 rfl (lv_at hl 2 rfl) ?_
    refine lv_aload_n hx hb dX4_copyFrom_11 rfl (lv_at hl 0 rfl) ?_
    refine va_get (D := G.1) (cl := vwCl) (tys := tysG G) (ci := 4) (v := .int (σdd.1 3)) (C := RX4) (T := TX4) (N := 6) hx hb hts iX4 hown hG.1 hP 0 rfl rfl 3 (Nat.le_of_ble_eq_true rfl) (hts _ tw_1_100) (fun _ h9 => h9) rfl dX4_copyFrom_12 ?_
    refine lv_icmp_ge (tgt := 39) hx hb dX4_copyFrom_15 (by decide) (fun c3 => ?_) (fun c3 => ?_)
    · have h := if_t c3 h
      cases h
      exact kk _ _ _ hP hD hS (lv_sub hl [0, 1, 2] rfl)
    · have h := if_f c3 h
      refine lv_aload_n hx hb dX4_copyFrom_18 rfl (lv_at hl 1 rfl) ?_
      refine va_get (D := G.1) (cl := vwCl) (tys := tysG G) (ci := 4) (v := .ref (oo 1)) (C := RX4) (T := TX4) (N := 6) hx hb hts iX4 hown hG.1 hP 11 rfl rfl 0 (Nat.le_of_ble_eq_true rfl) (hts _ tw_1_96) (fun _ h9 => h9) rfl dX4_copyFrom_19 ?_
      refine lv_iload_n hx hb dX4_copyFrom_22 rfl (lv_at hl 2 rfl) ?_
      by_cases c4 : v2 = 0
      · have h := if_t c4 h
        refine my_aald hx hb hG.1 hP 12 4 rfl rfl (b := oo 10) rfl (by rw [c4]; exact vpi (by decide)) (by rw [c4]; rfl) dX4_copyFrom_23 ?_
        refine lv_aload_n hx hb dX4_copyFrom_24 rfl (lv_at hl 0 rfl) ?_
        refine va_get (D := G.1) (cl := vwCl) (tys := tysG G) (ci := 4) (v := .ref (dd 1)) (C := RX4) (T := TX4) (N := 6) hx hb hts iX4 hown hG.1 hP 0 rfl rfl 0 (Nat.le_of_ble_eq_true rfl) (hts _ tw_1_96) (fun _ h9 => h9) rfl dX4_copyFrom_25 ?_
        refine lv_iload_n hx hb dX4_copyFrom_28 rfl (lv_at hl 2 rfl) ?_
        refine my_aald hx hb hG.1 hP 1 4 rfl rfl (b := dd 10) rfl (by rw [c4]; exact vpi (by decide)) (by rw [c4]; rfl) dX4_copyFrom_29 ?_
        obtain ⟨r5, hc6, h⟩ := bd_ex h
        refine cl_S K (mX4_copyFour l G F (oo 10) (dd 10) (σoo.2.1 10) (σdd.2.1 10) hc6) tw_3_10 tw_1_6 tw_3_9 tw_3_8 cdX4_copyFour ⟨Nat.le_of_ble_eq_true rfl, Nat.le_of_ble_eq_true rfl⟩ hP hD hS [13, 2] rfl rfl rfl rfl hl.1 (Nat.le_of_ble_eq_true rfl) ⟨Nat.zero_le _, Nat.zero_le _⟩ dX4_copyFrom_30 (fun H locs hP hD hS => ?_)
        have hP : va_P G.1 vwCl (List.flatten [wD G dd (sW σdd 10 r5), wD G oo σoo]) H := hP
        have hD : va_D A (List.flatten [wD G dd (sW σdd 10 r5), wD G oo σoo]) := hD
        refine lv_iinc (v := v2 + 1) (lv' := [(2, .int (v2 + 1)), (0, .ref (dd 0)), (1, .ref (oo 0))]) hx hb dX4_copyFrom_33 hl (k := 2) rfl (by rw [li_1]) (Nat.le_of_ble_eq_true rfl) rfl (fun ls hl => ?_)
        refine lv_goto (tgt := 10) hx hb dX4_copyFrom_36 (by decide) ?_
        exact ih (v2 + 1) (sW σdd 10 r5) _ _ _ hP hD hS (lv_sub hl [1, 2, 0] rfl) h
      have h := if_f c4 h
      by_cases c7 : v2 = 1
      · have h := if_t c7 h
        refine my_aald hx hb hG.1 hP 12 4 rfl rfl (b := oo 11) rfl (by rw [c7]; exact vpi (by decide)) (by rw [c7]; rfl) dX4_copyFrom_23 ?_
        refine lv_aload_n hx hb dX4_copyFrom_24 rfl (lv_at hl 0 rfl) ?_
        refine va_get (D := G.1) (cl := vwCl) (tys := tysG G) (ci := 4) (v := .ref (dd 1)) (C := RX4) (T := TX4) (N := 6) hx hb hts iX4 hown hG.1 hP 0 rfl rfl 0 (Nat.le_of_ble_eq_true rfl) (hts _ tw_1_96) (fun _ h9 => h9) rfl dX4_copyFrom_25 ?_
        refine lv_iload_n hx hb dX4_copyFrom_28 rfl (lv_at hl 2 rfl) ?_
        refine my_aald hx hb hG.1 hP 1 4 rfl rfl (b := dd 11) rfl (by rw [c7]; exact vpi (by decide)) (by rw [c7]; rfl) dX4_copyFrom_29 ?_
        obtain ⟨r8, hc9, h⟩ := bd_ex h
        refine cl_S K (mX4_copyFour l G F (oo 11) (dd 11) (σoo.2.1 11) (σdd.2.1 11) hc9) tw_3_10 tw_1_6 tw_3_9 tw_3_8 cdX4_copyFour ⟨Nat.le_of_ble_eq_true rfl, Nat.le_of_ble_eq_true rfl⟩ hP hD hS [14, 3] rfl rfl rfl rfl hl.1 (Nat.le_of_ble_eq_true rfl) ⟨Nat.zero_le _, Nat.zero_le _⟩ dX4_copyFrom_30 (fun H locs hP hD hS => ?_)
        have hP : va_P G.1 vwCl (List.flatten [wD G dd (sW σdd 11 r8), wD G oo σoo]) H := hP
        have hD : va_D A (List.flatten [wD G dd (sW σdd 11 r8), wD G oo σoo]) := hD
        refine lv_iinc (v := v2 + 1) (lv' := [(2, .int (v2 + 1)), (0, .ref (dd 0)), (1, .ref (oo 0))]) hx hb dX4_copyFrom_33 hl (k := 2) rfl (by rw [li_1]) (Nat.le_of_ble_eq_true rfl) rfl (fun ls hl => ?_)
        refine lv_goto (tgt := 10) hx hb dX4_copyFrom_36 (by decide) ?_
        exact ih (v2 + 1) (sW σdd 11 r8) _ _ _ hP hD hS (lv_sub hl [1, 2, 0] rfl) h
      have h := if_f c7 h
      by_cases c10 : v2 = 2
      · have h := if_t c10 h
        refine my_aald hx hb hG.1 hP 12 4 rfl rfl (b := oo 12) rfl (by rw [c10]; exact vpi (by decide)) (by rw [c10]; rfl) dX4_copyFrom_23 ?_
        refine lv_aload_n hx hb dX4_copyFrom_24 rfl (lv_at hl 0 rfl) ?_
        refine va_get (D := G.1) (cl := vwCl) (tys := tysG G) (ci := 4) (v := .ref (dd 1)) (C := RX4) (T := TX4) (N := 6) hx hb hts iX4 hown hG.1 hP 0 rfl rfl 0 (Nat.le_of_ble_eq_true rfl) (hts _ tw_1_96) (fun _ h9 => h9) rfl dX4_copyFrom_25 ?_
        refine lv_iload_n hx hb dX4_copyFrom_28 rfl (lv_at hl 2 rfl) ?_
        refine my_aald hx hb hG.1 hP 1 4 rfl rfl (b := dd 12) rfl (by rw [c10]; exact vpi (by decide)) (by rw [c10]; rfl) dX4_copyFrom_29 ?_
        obtain ⟨r11, hc12, h⟩ := bd_ex h
        refine cl_S K (mX4_copyFour l G F (oo 12) (dd 12) (σoo.2.1 12) (σdd.2.1 12) hc12) tw_3_10 tw_1_6 tw_3_9 tw_3_8 cdX4_copyFour ⟨Nat.le_of_ble_eq_true rfl, Nat.le_of_ble_eq_true rfl⟩ hP hD hS [15, 4] rfl rfl rfl rfl hl.1 (Nat.le_of_ble_eq_true rfl) ⟨Nat.zero_le _, Nat.zero_le _⟩ dX4_copyFrom_30 (fun H locs hP hD hS => ?_)
        have hP : va_P G.1 vwCl (List.flatten [wD G dd (sW σdd 12 r11), wD G oo σoo]) H := hP
        have hD : va_D A (List.flatten [wD G dd (sW σdd 12 r11), wD G oo σoo]) := hD
        refine lv_iinc (v := v2 + 1) (lv' := [(2, .int (v2 + 1)), (0, .ref (dd 0)), (1, .ref (oo 0))]) hx hb dX4_copyFrom_33 hl (k := 2) rfl (by rw [li_1]) (Nat.le_of_ble_eq_true rfl) rfl (fun ls hl => ?_)
        refine lv_goto (tgt := 10) hx hb dX4_copyFrom_36 (by decide) ?_
        exact ih (v2 + 1) (sW σdd 12 r11) _ _ _ hP hD hS (lv_sub hl [1, 2, 0] rfl) h
      have h := if_f c10 h
      cases h
def gbX4_copyFrom_49 (F : Nat) (σoo : ST) (rc : Int32 → ST → Option (Int32 × ST)) (v2 : Int32) (σdd : ST) : Option (Int32 × ST) :=
  if (σdd.1 4) ≤ v2 then
    some (v2, σdd)
  else
    if v2 = 0 then
      (fX4_copyFour F (σoo.2.1 20) (σdd.2.1 20)).bind fun r19 =>
      rc (v2 + 1) (sW σdd 20 r19)
    else
    if v2 = 1 then
      (fX4_copyFour F (σoo.2.1 21) (σdd.2.1 21)).bind fun r22 =>
      rc (v2 + 1) (sW σdd 21 r22)
    else
    if v2 = 2 then
      (fX4_copyFour F (σoo.2.1 22) (σdd.2.1 22)).bind fun r25 =>
      rc (v2 + 1) (sW σdd 22 r25)
    else
    if v2 = 3 then
      (fX4_copyFour F (σoo.2.1 23) (σdd.2.1 23)).bind fun r28 =>
      rc (v2 + 1) (sW σdd 23 r28)
    else
      none
def gX4_copyFrom_49 (F : Nat) (σoo : ST) : Nat → Int32 → ST → Option (Int32 × ST)
  | 0, _, _ => none
  | n + 1, v2, σdd => gbX4_copyFrom_49 F σoo (gX4_copyFrom_49 F σoo n) v2 σdd
set_option maxHeartbeats 4000000 in
set_option maxRecDepth 100000 in
theorem kX4_copyFrom_49 {p : Program} {l : Launch} {e : Env} {s : State} {m : MethodId} {args : Array Value} {below : List Frame} {meth : Method} {c : Code} {A : Nat → Prop} {Q : State → Prop} {G : GP} (K : Cx p s m meth c G cX4_copyFrom RX4 3 none args A) (F : Nat) (dd : Nat → Nat) (oo : Nat → Nat) (σoo : ST) {z : Int32 × ST} (kk : ∀ (H : Heap) (locs : List Loc) (ls : Array Slot), va_P G.1 vwCl (List.flatten [wD G dd z.2, wD G oo σoo]) H → va_D A (List.flatten [wD G dd z.2, wD G oo σoo]) → va_S A s.heap H locs → lv_has ls 3 [(0, .ref (dd 0)), (1, .ref (oo 0)), (2, .int z.1)] → W p l e (RM 3) s m args below meth c H locs 0 0 Q (F0 m 78 ls [])) :
    ∀ (n : Nat) (v2 : Int32) (σdd : ST) (H : Heap) (locs : List Loc) (ls : Array Slot), va_P G.1 vwCl (List.flatten [wD G dd σdd, wD G oo σoo]) H → va_D A (List.flatten [wD G dd σdd, wD G oo σoo]) → va_S A s.heap H locs → lv_has ls 3 [(0, .ref (dd 0)), (1, .ref (oo 0)), (2, .int v2)] → gX4_copyFrom_49 F σoo n v2 σdd = some z → W p l e (RM 3) s m args below meth c H locs 0 0 Q (F0 m 49 ls []) := by
  obtain ⟨hx, hb, hr, hml, hts, hown, hlocks, hA, hG⟩ := id K
  intro n
  induction n with
  | zero =>
    intro v2 σdd H locs ls hP hD hS hl h
    have h : none = some z := h
    cases h
  | succ n ih =>
    intro v2 σdd H locs ls hP hD hS hl h
    have h : gbX4_copyFrom_49 F σoo (gX4_copyFrom_49 F σoo n) v2 σdd = some z := h
    unfold gbX4_copyFrom_49 at h
    refine lv_iload_n hx hb dX4_copyFrom_49 rfl (lv_at hl 2 rfl) ?_
    refine lv_aload_n hx hb dX4_copyFrom_50 rfl (lv_at hl 0 rfl) ?_
    refine va_get (D := G.1) (cl := vwCl) (tys := tysG G) (ci := 4) (v := .int (σdd.1 4)) (C := RX4) (T := TX4) (N := 6) hx hb hts iX4 hown hG.1 hP 0 rfl rfl 4 (Nat.le_of_ble_eq_true rfl) (hts _ tw_1_104) (fun _ h9 => h9) rfl dX4_copyFrom_51 ?_
    refine lv_icmp_ge (tgt := 78) hx hb dX4_copyFrom_54 (by decide) (fun c17 => ?_) (fun c17 => ?_)
    · have h := if_t c17 h
      cases h
      exact kk _ _ _ hP hD hS (lv_sub hl [0, 1, 2] rfl)
    · have h := if_f c17 h
      refine lv_aload_n hx hb dX4_copyFrom_57 rfl (lv_at hl 1 rfl) ?_
      refine va_get (D := G.1) (cl := vwCl) (tys := tysG G) (ci := 4) (v := .ref (oo 2)) (C := RX4) (T := TX4) (N := 6) hx hb hts iX4 hown hG.1 hP 11 rfl rfl 1 (Nat.le_of_ble_eq_true rfl) (hts _ tw_1_98) (fun _ h9 => h9) rfl dX4_copyFrom_58 ?_
      refine lv_iload_n hx hb dX4_copyFrom_61 rfl (lv_at hl 2 rfl) ?_
      by_cases c18 : v2 = 0
      · have h := if_t c18 h
        refine my_aald hx hb hG.1 hP 16 4 rfl rfl (b := oo 20) rfl (by rw [c18]; exact vpi (by decide)) (by rw [c18]; rfl) dX4_copyFrom_62 ?_
        refine lv_aload_n hx hb dX4_copyFrom_63 rfl (lv_at hl 0 rfl) ?_
        refine va_get (D := G.1) (cl := vwCl) (tys := tysG G) (ci := 4) (v := .ref (dd 2)) (C := RX4) (T := TX4) (N := 6) hx hb hts iX4 hown hG.1 hP 0 rfl rfl 1 (Nat.le_of_ble_eq_true rfl) (hts _ tw_1_98) (fun _ h9 => h9) rfl dX4_copyFrom_64 ?_
        refine lv_iload_n hx hb dX4_copyFrom_67 rfl (lv_at hl 2 rfl) ?_
        refine my_aald hx hb hG.1 hP 5 4 rfl rfl (b := dd 20) rfl (by rw [c18]; exact vpi (by decide)) (by rw [c18]; rfl) dX4_copyFrom_68 ?_
        obtain ⟨r19, hc20, h⟩ := bd_ex h
        refine cl_S K (mX4_copyFour l G F (oo 20) (dd 20) (σoo.2.1 20) (σdd.2.1 20) hc20) tw_3_10 tw_1_6 tw_3_9 tw_3_8 cdX4_copyFour ⟨Nat.le_of_ble_eq_true rfl, Nat.le_of_ble_eq_true rfl⟩ hP hD hS [17, 6] rfl rfl rfl rfl hl.1 (Nat.le_of_ble_eq_true rfl) ⟨Nat.zero_le _, Nat.zero_le _⟩ dX4_copyFrom_69 (fun H locs hP hD hS => ?_)
        have hP : va_P G.1 vwCl (List.flatten [wD G dd (sW σdd 20 r19), wD G oo σoo]) H := hP
        have hD : va_D A (List.flatten [wD G dd (sW σdd 20 r19), wD G oo σoo]) := hD
        refine lv_iinc (v := v2 + 1) (lv' := [(2, .int (v2 + 1)), (0, .ref (dd 0)), (1, .ref (oo 0))]) hx hb dX4_copyFrom_72 hl (k := 2) rfl (by rw [li_1]) (Nat.le_of_ble_eq_true rfl) rfl (fun ls hl => ?_)
        refine lv_goto (tgt := 49) hx hb dX4_copyFrom_75 (by decide) ?_
        exact ih (v2 + 1) (sW σdd 20 r19) _ _ _ hP hD hS (lv_sub hl [1, 2, 0] rfl) h
      have h := if_f c18 h
      by_cases c21 : v2 = 1
      · have h := if_t c21 h
        refine my_aald hx hb hG.1 hP 16 4 rfl rfl (b := oo 21) rfl (by rw [c21]; exact vpi (by decide)) (by rw [c21]; rfl) dX4_copyFrom_62 ?_
        refine lv_aload_n hx hb dX4_copyFrom_63 rfl (lv_at hl 0 rfl) ?_
        refine va_get (D := G.1) (cl := vwCl) (tys := tysG G) (ci := 4) (v := .ref (dd 2)) (C := RX4) (T := TX4) (N := 6) hx hb hts iX4 hown hG.1 hP 0 rfl rfl 1 (Nat.le_of_ble_eq_true rfl) (hts _ tw_1_98) (fun _ h9 => h9) rfl dX4_copyFrom_64 ?_
        refine lv_iload_n hx hb dX4_copyFrom_67 rfl (lv_at hl 2 rfl) ?_
        refine my_aald hx hb hG.1 hP 5 4 rfl rfl (b := dd 21) rfl (by rw [c21]; exact vpi (by decide)) (by rw [c21]; rfl) dX4_copyFrom_68 ?_
        obtain ⟨r22, hc23, h⟩ := bd_ex h
        refine cl_S K (mX4_copyFour l G F (oo 21) (dd 21) (σoo.2.1 21) (σdd.2.1 21) hc23) tw_3_10 tw_1_6 tw_3_9 tw_3_8 cdX4_copyFour ⟨Nat.le_of_ble_eq_true rfl, Nat.le_of_ble_eq_true rfl⟩ hP hD hS [18, 7] rfl rfl rfl rfl hl.1 (Nat.le_of_ble_eq_true rfl) ⟨Nat.zero_le _, Nat.zero_le _⟩ dX4_copyFrom_69 (fun H locs hP hD hS => ?_)
        have hP : va_P G.1 vwCl (List.flatten [wD G dd (sW σdd 21 r22), wD G oo σoo]) H := hP
        have hD : va_D A (List.flatten [wD G dd (sW σdd 21 r22), wD G oo σoo]) := hD
        refine lv_iinc (v := v2 + 1) (lv' := [(2, .int (v2 + 1)), (0, .ref (dd 0)), (1, .ref (oo 0))]) hx hb dX4_copyFrom_72 hl (k := 2) rfl (by rw [li_1]) (Nat.le_of_ble_eq_true rfl) rfl (fun ls hl => ?_)
        refine lv_goto (tgt := 49) hx hb dX4_copyFrom_75 (by decide) ?_
        exact ih (v2 + 1) (sW σdd 21 r22) _ _ _ hP hD hS (lv_sub hl [1, 2, 0] rfl) h
      have h := if_f c21 h
      by_cases c24 : v2 = 2
      · have h := if_t c24 h
        refine my_aald hx hb hG.1 hP 16 4 rfl rfl (b := oo 22) rfl (by rw [c24]; exact vpi (by decide)) (by rw [c24]; rfl) dX4_copyFrom_62 ?_
        refine lv_aload_n hx hb dX4_copyFrom_63 rfl (lv_at hl 0 rfl) ?_
        refine va_get (D := G.1) (cl := vwCl) (tys := tysG G) (ci := 4) (v := .ref (dd 2)) (C := RX4) (T := TX4) (N := 6) hx hb hts iX4 hown hG.1 hP 0 rfl rfl 1 (Nat.le_of_ble_eq_true rfl) (hts _ tw_1_98) (fun _ h9 => h9) rfl dX4_copyFrom_64 ?_
        refine lv_iload_n hx hb dX4_copyFrom_67 rfl (lv_at hl 2 rfl) ?_
        refine my_aald hx hb hG.1 hP 5 4 rfl rfl (b := dd 22) rfl (by rw [c24]; exact vpi (by decide)) (by rw [c24]; rfl) dX4_copyFrom_68 ?_
        obtain ⟨r25, hc26, h⟩ := bd_ex h
        refine cl_S K (mX4_copyFour l G F (oo 22) (dd 22) (σoo.2.1 22) (σdd.2.1 22) hc26) tw_3_10 tw_1_6 tw_3_9 tw_3_8 cdX4_copyFour ⟨Nat.le_of_ble_eq_true rfl, Nat.le_of_ble_eq_true rfl⟩ hP hD hS [19, 8] rfl rfl rfl rfl hl.1 (Nat.le_of_ble_eq_true rfl) ⟨Nat.zero_le _, Nat.zero_le _⟩ dX4_copyFrom_69 (fun H locs hP hD hS => ?_)
        have hP : va_P G.1 vwCl (List.flatten [wD G dd (sW σdd 22 r25), wD G oo σoo]) H := hP
        have hD : va_D A (List.flatten [wD G dd (sW σdd 22 r25), wD G oo σoo]) := hD
        refine lv_iinc (v := v2 + 1) (lv' := [(2, .int (v2 + 1)), (0, .ref (dd 0)), (1, .ref (oo 0))]) hx hb dX4_copyFrom_72 hl (k := 2) rfl (by rw [li_1]) (Nat.le_of_ble_eq_true rfl) rfl (fun ls hl => ?_)
        refine lv_goto (tgt := 49) hx hb dX4_copyFrom_75 (by decide) ?_
        exact ih (v2 + 1) (sW σdd 22 r25) _ _ _ hP hD hS (lv_sub hl [1, 2, 0] rfl) h
      have h := if_f c24 h
      by_cases c27 : v2 = 3
      · have h := if_t c27 h
        refine my_aald hx hb hG.1 hP 16 4 rfl rfl (b := oo 23) rfl (by rw [c27]; exact vpi (by decide)) (by rw [c27]; rfl) dX4_copyFrom_62 ?_
        refine lv_aload_n hx hb dX4_copyFrom_63 rfl (lv_at hl 0 rfl) ?_
        refine va_get (D := G.1) (cl := vwCl) (tys := tysG G) (ci := 4) (v := .ref (dd 2)) (C := RX4) (T := TX4) (N := 6) hx hb hts iX4 hown hG.1 hP 0 rfl rfl 1 (Nat.le_of_ble_eq_true rfl) (hts _ tw_1_98) (fun _ h9 => h9) rfl dX4_copyFrom_64 ?_
        refine lv_iload_n hx hb dX4_copyFrom_67 rfl (lv_at hl 2 rfl) ?_
        refine my_aald hx hb hG.1 hP 5 4 rfl rfl (b := dd 23) rfl (by rw [c27]; exact vpi (by decide)) (by rw [c27]; rfl) dX4_copyFrom_68 ?_
        obtain ⟨r28, hc29, h⟩ := bd_ex h
        refine cl_S K (mX4_copyFour l G F (oo 23) (dd 23) (σoo.2.1 23) (σdd.2.1 23) hc29) tw_3_10 tw_1_6 tw_3_9 tw_3_8 cdX4_copyFour ⟨Nat.le_of_ble_eq_true rfl, Nat.le_of_ble_eq_true rfl⟩ hP hD hS [20, 9] rfl rfl rfl rfl hl.1 (Nat.le_of_ble_eq_true rfl) ⟨Nat.zero_le _, Nat.zero_le _⟩ dX4_copyFrom_69 (fun H locs hP hD hS => ?_)
        have hP : va_P G.1 vwCl (List.flatten [wD G dd (sW σdd 23 r28), wD G oo σoo]) H := hP
        have hD : va_D A (List.flatten [wD G dd (sW σdd 23 r28), wD G oo σoo]) := hD
        refine lv_iinc (v := v2 + 1) (lv' := [(2, .int (v2 + 1)), (0, .ref (dd 0)), (1, .ref (oo 0))]) hx hb dX4_copyFrom_72 hl (k := 2) rfl (by rw [li_1]) (Nat.le_of_ble_eq_true rfl) rfl (fun ls hl => ?_)
        refine lv_goto (tgt := 49) hx hb dX4_copyFrom_75 (by decide) ?_
        exact ih (v2 + 1) (sW σdd 23 r28) _ _ _ hP hD hS (lv_sub hl [1, 2, 0] rfl) h
      have h := if_f c27 h
      cases h
def fX4_copyFrom (F : Nat) (σdd : ST) (σoo : ST)  : Option (ST) :=
  nm (sI σdd 3 (σoo.1 3)) fun (s1 : ST) =>
  (gX4_copyFrom_10 F σoo F (0 : Int32) s1).bind fun z13 =>
    nm (sI z13.2 4 (σoo.1 4)) fun (s15 : ST) =>
    (gX4_copyFrom_49 F σoo F (0 : Int32) s15).bind fun z30 =>
      nm (sI z30.2 5 (σoo.1 5)) fun (s32 : ST) =>
      nm (sW s32 2 (va_cpy (σoo.2.1 2) (s32.2.1 2) 0 0 6)) fun (s34 : ST) =>
      some s34
theorem cdX4_copyFrom : CallD yX4_copyFrom 1 := by decide +kernel
set_option maxHeartbeats 4000000 in
set_option maxRecDepth 100000 in
theorem mX4_copyFrom (l : Launch) (G : GP) (F : Nat) (dd : Nat → Nat) (oo : Nat → Nat) (σdd : ST) (σoo : ST)  {r : ST} (h : fX4_copyFrom F σdd σoo  = some r) : CC l G yX4_copyFrom cX4_copyFrom 3 none 3 [.ref (dd 0), .ref (oo 0)] (List.flatten [wD G dd σdd, wD G oo σoo]) (List.flatten [wD G dd r, wD G oo σoo]) none := by
  refine CC.of (by decide) (Nat.le_of_ble_eq_true rfl) ?_
  intro p e s m below meth c A K hP hD hS ls hl
  obtain ⟨hx, hb, hr, hml, hts, hown, hlocks, hA, hG⟩ := id K
  have hl : lv_has ls 3 [(0, .ref (dd 0)), (1, .ref (oo 0))] := hl
  unfold fX4_copyFrom at h
  refine lv_aload_n hx hb dX4_copyFrom_0 rfl (lv_at hl 0 rfl) ?_
  refine lv_aload_n hx hb dX4_copyFrom_1 rfl (lv_at hl 1 rfl) ?_
  refine va_get (D := G.1) (cl := vwCl) (tys := tysG G) (ci := 4) (v := .int (σoo.1 3)) (C := RX4) (T := TX4) (N := 6) hx hb hts iX4 hown hG.1 hP 11 rfl rfl 3 (Nat.le_of_ble_eq_true rfl) (hts _ tw_1_100) (fun _ h9 => h9) rfl dX4_copyFrom_2 ?_
  obtain ⟨s1, e2, h⟩ := nm_ex h
  refine va_put (D := G.1) (cl := vwCl) (tys := tysG G) (ci := 4) (v := .int (σoo.1 3)) (ty := .int) (C := RX4) (T := TX4) (N := 6) hx hb hts iX4 tyX4 tyX4_ok nmX4 hown hG.1 hP hD hS 0 rfl rfl 3 (Nat.le_of_ble_eq_true rfl) (hts _ tw_1_100) (fun _ h9 => h9) rfl (by decide +kernel) rfl rfl (Nat.le_of_ble_eq_true rfl) dX4_copyFrom_5 (fun H locs hP hD hS => ?_)
  have hP : va_P G.1 vwCl (List.flatten [wD G dd s1, wD G oo σoo]) H := by rw [e2]; exact hP
  have hD : va_D A (List.flatten [wD G dd s1, wD G oo σoo]) := by rw [e2]; exact hD
  refine lv_iconst (v := 0) hx hb dX4_copyFrom_8 li_0 ?_
  refine lv_istore_n (lv' := [(2, .int (0 : Int32)), (0, .ref (dd 0)), (1, .ref (oo 0))]) hx hb dX4_copyFrom_9 rfl hl (Nat.le_of_ble_eq_true rfl) rfl (fun ls hl => ?_)
  obtain ⟨z13, hz14, h⟩ := bd_ex h
  refine kX4_copyFrom_10 K F dd oo σoo (fun H locs ls hP hD hS hl => ?_) F (0 : Int32) s1 _ _ _ hP hD hS (lv_sub hl [1, 2, 0] rfl) hz14
  refine lv_aload_n hx hb dX4_copyFrom_39 rfl (lv_at hl 0 rfl) ?_
  refine lv_aload_n hx hb dX4_copyFrom_40 rfl (lv_at hl 1 rfl) ?_
  refine va_get (D := G.1) (cl := vwCl) (tys := tysG G) (ci := 4) (v := .int (σoo.1 4)) (C := RX4) (T := TX4) (N := 6) hx hb hts iX4 hown hG.1 hP 11 rfl rfl 4 (Nat.le_of_ble_eq_true rfl) (hts _ tw_1_104) (fun _ h9 => h9) rfl dX4_copyFrom_41 ?_
  obtain ⟨s15, e16, h⟩ := nm_ex h
  refine va_put (D := G.1) (cl := vwCl) (tys := tysG G) (ci := 4) (v := .int (σoo.1 4)) (ty := .int) (C := RX4) (T := TX4) (N := 6) hx hb hts iX4 tyX4 tyX4_ok nmX4 hown hG.1 hP hD hS 0 rfl rfl 4 (Nat.le_of_ble_eq_true rfl) (hts _ tw_1_104) (fun _ h9 => h9) rfl (by decide +kernel) rfl rfl (Nat.le_of_ble_eq_true rfl) dX4_copyFrom_44 (fun H locs hP hD hS => ?_)
  have hP : va_P G.1 vwCl (List.flatten [wD G dd s15, wD G oo σoo]) H := by rw [e16]; exact hP
  have hD : va_D A (List.flatten [wD G dd s15, wD G oo σoo]) := by rw [e16]; exact hD
  refine lv_iconst (v := 0) hx hb dX4_copyFrom_47 li_0 ?_
  refine lv_istore_n (lv' := [(2, .int (0 : Int32)), (0, .ref (dd 0)), (1, .ref (oo 0))]) hx hb dX4_copyFrom_48 rfl hl (Nat.le_of_ble_eq_true rfl) rfl (fun ls hl => ?_)
  obtain ⟨z30, hz31, h⟩ := bd_ex h
  refine kX4_copyFrom_49 K F dd oo σoo (fun H locs ls hP hD hS hl => ?_) F (0 : Int32) s15 _ _ _ hP hD hS (lv_sub hl [1, 2, 0] rfl) hz31
  refine lv_aload_n hx hb dX4_copyFrom_78 rfl (lv_at hl 0 rfl) ?_
  refine lv_aload_n hx hb dX4_copyFrom_79 rfl (lv_at hl 1 rfl) ?_
  refine va_get (D := G.1) (cl := vwCl) (tys := tysG G) (ci := 4) (v := .int (σoo.1 5)) (C := RX4) (T := TX4) (N := 6) hx hb hts iX4 hown hG.1 hP 11 rfl rfl 5 (Nat.le_of_ble_eq_true rfl) (hts _ tw_1_107) (fun _ h9 => h9) rfl dX4_copyFrom_80 ?_
  obtain ⟨s32, e33, h⟩ := nm_ex h
  refine va_put (D := G.1) (cl := vwCl) (tys := tysG G) (ci := 4) (v := .int (σoo.1 5)) (ty := .int) (C := RX4) (T := TX4) (N := 6) hx hb hts iX4 tyX4 tyX4_ok nmX4 hown hG.1 hP hD hS 0 rfl rfl 5 (Nat.le_of_ble_eq_true rfl) (hts _ tw_1_107) (fun _ h9 => h9) rfl (by decide +kernel) rfl rfl (Nat.le_of_ble_eq_true rfl) dX4_copyFrom_83 (fun H locs hP hD hS => ?_)
  have hP : va_P G.1 vwCl (List.flatten [wD G dd s32, wD G oo σoo]) H := by rw [e33]; exact hP
  have hD : va_D A (List.flatten [wD G dd s32, wD G oo σoo]) := by rw [e33]; exact hD
  refine lv_aload_n hx hb dX4_copyFrom_86 rfl (lv_at hl 1 rfl) ?_
  refine va_get (D := G.1) (cl := vwCl) (tys := tysG G) (ci := 4) (v := .ref (oo 3)) (C := RX4) (T := TX4) (N := 6) hx hb hts iX4 hown hG.1 hP 11 rfl rfl 2 (Nat.le_of_ble_eq_true rfl) (hts _ tw_1_99) (fun _ h9 => h9) rfl dX4_copyFrom_87 ?_
  refine lv_iconst (v := 0) hx hb dX4_copyFrom_90 li_0 ?_
  refine lv_aload_n hx hb dX4_copyFrom_91 rfl (lv_at hl 0 rfl) ?_
  refine va_get (D := G.1) (cl := vwCl) (tys := tysG G) (ci := 4) (v := .ref (dd 3)) (C := RX4) (T := TX4) (N := 6) hx hb hts iX4 hown hG.1 hP 0 rfl rfl 2 (Nat.le_of_ble_eq_true rfl) (hts _ tw_1_99) (fun _ h9 => h9) rfl dX4_copyFrom_92 ?_
  refine lv_iconst (v := 0) hx hb dX4_copyFrom_95 li_0 ?_
  refine lv_bipush (v := 6) hx hb dX4_copyFrom_96 lb_6 ?_
  obtain ⟨s34, e35, h⟩ := nm_ex h
  refine va_copyi hx hb (hml.trans hl.1.symm) hown (hts _ tw_3_11) (hts _ tw_3_13) (hts _ tw_3_12) (hts _ tw_1_19) hG.1 hP hD hS 21 10 0 0 rfl rfl rfl rfl rfl (by decide) (by decide) (by decide) (by decide) (by decide) (fun _ _ => rfl) (Nat.le_of_ble_eq_true rfl) (Nat.le_of_ble_eq_true rfl) dX4_copyFrom_98 (fun H locs hP hD hS => ?_)
  have hP : va_P G.1 vwCl (List.flatten [wD G dd s34, wD G oo σoo]) H := by rw [e35]; exact hP
  have hD : va_D A (List.flatten [wD G dd s34, wD G oo σoo]) := by rw [e35]; exact hD
  cases h
  exact rt_v K hP hD hS dX4_copyFrom_101
