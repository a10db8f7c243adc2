def gbX11_layRuns_67 (F : Nat) (v1 : Int32) (v2 : Int32) (v4 : Int32) (v5 : Int32) (v6 : Int32) (rc : Int32 → Int32 → ST → Option (Int32 × Int32 × ST)) (v3 : Int32) (v7 : Int32) (σxx : ST) : Option (Int32 × Int32 × ST) :=
  if (10 : Int32) ≤ v7 then
    some (v3, v7, σxx)
  else
    if ((v6 >>> (v7 &&& 31)) &&& (1 : Int32)) = (1 : Int32) then
      if v7 ≤ 0 then
        if ((3 : Int32) * v3) < 0 ∨ 90 ≤ ((3 : Int32) * v3).toNatClampNeg then none else
        nm (sA σxx 22 ((3 : Int32) * v3).toNatClampNeg v5) fun (s16 : ST) =>
        if (((3 : Int32) * v3) + (1 : Int32)) < 0 ∨ 90 ≤ (((3 : Int32) * v3) + (1 : Int32)).toNatClampNeg then none else
        nm (sA s16 22 (((3 : Int32) * v3) + (1 : Int32)).toNatClampNeg v7) fun (s19 : ST) =>
        if (((3 : Int32) * v3) + (2 : Int32)) < 0 ∨ 90 ≤ (((3 : Int32) * v3) + (2 : Int32)).toNatClampNeg then none else
        nm (sA s19 22 (((3 : Int32) * v3) + (2 : Int32)).toNatClampNeg (0 : Int32)) fun (s22 : ST) =>
        if (((3 : Int32) * (v3 + 1)) - (1 : Int32)) < 0 ∨ 90 ≤ (((3 : Int32) * (v3 + 1)) - (1 : Int32)).toNatClampNeg then none else
        nm (sA s22 22 (((3 : Int32) * (v3 + 1)) - (1 : Int32)).toNatClampNeg ((s22.2.1 22 (((3 : Int32) * (v3 + 1)) - (1 : Int32)).toNatClampNeg) + (1 : Int32))) fun (s25 : ST) =>
        rc (v3 + 1) (v7 + 1) s25
      else
        if ((v6 >>> ((v7 - (1 : Int32)) &&& 31)) &&& (1 : Int32)) = (1 : Int32) then
          if (((3 : Int32) * v3) - (1 : Int32)) < 0 ∨ 90 ≤ (((3 : Int32) * v3) - (1 : Int32)).toNatClampNeg then none else
          nm (sA σxx 22 (((3 : Int32) * v3) - (1 : Int32)).toNatClampNeg ((σxx.2.1 22 (((3 : Int32) * v3) - (1 : Int32)).toNatClampNeg) + (1 : Int32))) fun (s41 : ST) =>
          rc v3 (v7 + 1) s41
        else
          if ((3 : Int32) * v3) < 0 ∨ 90 ≤ ((3 : Int32) * v3).toNatClampNeg then none else
          nm (sA σxx 22 ((3 : Int32) * v3).toNatClampNeg v5) fun (s29 : ST) =>
          if (((3 : Int32) * v3) + (1 : Int32)) < 0 ∨ 90 ≤ (((3 : Int32) * v3) + (1 : Int32)).toNatClampNeg then none else
          nm (sA s29 22 (((3 : Int32) * v3) + (1 : Int32)).toNatClampNeg v7) fun (s32 : ST) =>
          if (((3 : Int32) * v3) + (2 : Int32)) < 0 ∨ 90 ≤ (((3 : Int32) * v3) + (2 : Int32)).toNatClampNeg then none else
          nm (sA s32 22 (((3 : Int32) * v3) + (2 : Int32)).toNatClampNeg (0 : Int32)) fun (s35 : ST) =>
          if (((3 : Int32) * (v3 + 1)) - (1 : Int32)) < 0 ∨ 90 ≤ (((3 : Int32) * (v3 + 1)) - (1 : Int32)).toNatClampNeg then none else
          nm (sA s35 22 (((3 : Int32) * (v3 + 1)) - (1 : Int32)).toNatClampNeg ((s35.2.1 22 (((3 : Int32) * (v3 + 1)) - (1 : Int32)).toNatClampNeg) + (1 : Int32))) fun (s38 : ST) =>
          rc (v3 + 1) (v7 + 1) s38
    else
      if v7 ≤ 0 then
        rc v3 (v7 + 1) σxx
      else
        if ((v6 >>> ((v7 - (1 : Int32)) &&& 31)) &&& (1 : Int32)) = (1 : Int32) then
          rc v3 (v7 + 1) σxx
        else
          rc v3 (v7 + 1) σxx
def gX11_layRuns_67 (F : Nat) (v1 : Int32) (v2 : Int32) (v4 : Int32) (v5 : Int32) (v6 : Int32) : Nat → Int32 → Int32 → ST → Option (Int32 × Int32 × ST)
  | 0, _, _, _ => none
  | n + 1, v3, v7, σxx => gbX11_layRuns_67 F v1 v2 v4 v5 v6 (gX11_layRuns_67 F v1 v2 v4 v5 v6 n) v3 v7 σxx
set_option maxHeartbeats 4000000 in
set_option maxRecDepth 100000 in
theorem kX11_layRuns_67 {p : Program} {l : Launch} {e : Env} {s : State} {m : MethodId} {args : Array Value} {below : List Frame} {meth : Method} {c : Code} {A : Nat → Prop} {Q : State → Prop} {G : GP} (K : Cx p s m meth c G cX11_layRuns RX11 10 (some .int) args A) (F : Nat) (xx : Nat → Nat) (v1 : Int32) (v2 : Int32) (v4 : Int32) (v5 : Int32) (v6 : Int32) {z : Int32 × Int32 × ST} (kk : ∀ (H : Heap) (locs : List Loc) (ls : Array Slot), va_P G.1 vwCl (List.flatten [wX G xx z.2.2]) H → va_D A (List.flatten [wX G xx z.2.2]) → va_S A s.heap H locs → lv_has ls 10 [(0, .ref (xx 0)), (1, .int v1), (2, .int v2), (3, .int z.1), (4, .int v4), (5, .int v5), (6, .int v6), (7, .int z.2.1)] → W p l e (RM 5) s m args below meth c H locs 0 0 Q (F0 m 188 ls [])) :
    ∀ (n : Nat) (v3 : Int32) (v7 : Int32) (σxx : ST) (H : Heap) (locs : List Loc) (ls : Array Slot), va_P G.1 vwCl (List.flatten [wX G xx σxx]) H → va_D A (List.flatten [wX G xx σxx]) → va_S A s.heap H locs → lv_has ls 10 [(0, .ref (xx 0)), (1, .int v1), (2, .int v2), (3, .int v3), (4, .int v4), (5, .int v5), (6, .int v6), (7, .int v7)] → gX11_layRuns_67 F v1 v2 v4 v5 v6 n v3 v7 σxx = some z → W p l e (RM 5) s m args below meth c H locs 0 0 Q (F0 m 67 ls []) := by
  obtain ⟨hx, hb, hr, hml, hts, hown, hlocks, hA, hG⟩ := id K
  intro n
  induction n with
  | zero =>
    intro v3 v7 σxx H locs ls hP hD hS hl h
    have h : none = some z := h
    cases h
  | succ n ih =>
    intro v3 v7 σxx H locs ls hP hD hS hl h
    have h : gbX11_layRuns_67 F v1 v2 v4 v5 v6 (gX11_layRuns_67 F v1 v2 v4 v5 v6 n) v3 v7 σxx = some z := h
    unfold gbX11_layRuns_67 at h
    refine lv_iload hx hb dX11_layRuns_67 (lv_at hl 7 rfl) ?_
    refine lv_bipush (v := 10) hx hb dX11_layRuns_69 lb_10 ?_
    refine lv_icmp_ge (tgt := 188) hx hb dX11_layRuns_71 (by decide) (fun c10 => ?_) (fun c10 => ?_)
    · have h := if_t c10 h
      cases h
      exact kk _ _ _ hP hD hS (lv_sub hl [0, 1, 2, 3, 4, 5, 6, 7] rfl)
    · have h := if_f c10 h
      refine lv_iload hx hb dX11_layRuns_74 (lv_at hl 6 rfl) ?_
      refine lv_iload hx hb dX11_layRuns_76 (lv_at hl 7 rfl) ?_
      refine lv_ishr hx hb dX11_layRuns_78 ?_
      refine lv_iconst (v := 1) hx hb dX11_layRuns_79 li_1 ?_
      refine lv_iand hx hb dX11_layRuns_80 ?_
      refine lv_iconst (v := 1) hx hb dX11_layRuns_81 li_1 ?_
      refine lv_icmp_ne (tgt := 89) hx hb dX11_layRuns_82 (by decide) (fun c11 => ?_) (fun c11 => ?_)
      · have h := if_f c11 h
        refine lv_iconst (v := 0) hx hb dX11_layRuns_89 li_0 ?_
        refine lv_istore (lv' := [(8, .int (0 : Int32)), (0, .ref (xx 0)), (1, .int v1), (2, .int v2), (3, .int v3), (4, .int v4), (5, .int v5), (6, .int v6), (7, .int v7)]) hx hb dX11_layRuns_90 hl (Nat.le_of_ble_eq_true rfl) rfl (fun ls hl => ?_)
        refine lv_iload hx hb dX11_layRuns_92 (lv_at hl 8 rfl) ?_
        refine lv_if_le (tgt := 114) hx hb dX11_layRuns_94 (by decide) (fun c12 => ?_) (fun c12 => ?_)
        · have h := if_t c12 h
          refine lv_iconst (v := 0) hx hb dX11_layRuns_114 li_0 ?_
          refine lv_istore (lv' := [(9, .int (0 : Int32)), (8, .int (0 : Int32)), (0, .ref (xx 0)), (1, .int v1), (2, .int v2), (3, .int v3), (4, .int v4), (5, .int v5), (6, .int v6), (7, .int v7)]) hx hb dX11_layRuns_115 hl (Nat.le_of_ble_eq_true rfl) rfl (fun ls hl => ?_)
          refine lv_iload hx hb dX11_layRuns_117 (lv_at hl 1 rfl) ?_
          refine lv_if_eq (tgt := 163) hx hb dX11_layRuns_119 (by decide) (fun c9 => ?_) (fun c9 => absurd c9 (by decide))
          refine lv_iload hx hb dX11_layRuns_163 (lv_at hl 1 rfl) ?_
          refine lv_if_eq (tgt := 182) hx hb dX11_layRuns_165 (by decide) (fun c9 => ?_) (fun c9 => absurd c9 (by decide))
          refine lv_iinc (v := v7 + 1) (lv' := [(7, .int (v7 + 1)), (9, .int (0 : Int32)), (8, .int (0 : Int32)), (0, .ref (xx 0)), (1, .int v1), (2, .int v2), (3, .int v3), (4, .int v4), (5, .int v5), (6, .int v6)]) hx hb dX11_layRuns_182 hl (k := 9) rfl (by rw [li_1]) (Nat.le_of_ble_eq_true rfl) rfl (fun ls hl => ?_)
          refine lv_goto (tgt := 67) hx hb dX11_layRuns_185 (by decide) ?_
          exact ih v3 (v7 + 1) σxx _ _ _ hP hD hS (lv_sub hl [3, 4, 5, 6, 7, 8, 9, 0] rfl) h
        · have h := if_f c12 h
          refine lv_iload hx hb dX11_layRuns_97 (lv_at hl 7 rfl) ?_
          refine lv_iload hx hb dX11_layRuns_99 (lv_at hl 8 rfl) ?_
          refine lv_iconst (v := 1) hx hb dX11_layRuns_101 li_1 ?_
          refine lv_isub hx hb dX11_layRuns_102 ?_
          refine lv_ishr hx hb dX11_layRuns_103 ?_
          refine lv_iconst (v := 1) hx hb dX11_layRuns_104 li_1 ?_
          refine lv_iand hx hb dX11_layRuns_105 ?_
          refine lv_iconst (v := 1) hx hb dX11_layRuns_106 li_1 ?_
          refine lv_icmp_ne (tgt := 114) hx hb dX11_layRuns_107 (by decide) (fun c13 => ?_) (fun c13 => ?_)
          · have h := if_f c13 h
            refine lv_iconst (v := 0) hx hb dX11_layRuns_114 li_0 ?_
            refine lv_istore (lv' := [(9, .int (0 : Int32)), (8, .int (0 : Int32)), (0, .ref (xx 0)), (1, .int v1), (2, .int v2), (3, .int v3), (4, .int v4), (5, .int v5), (6, .int v6), (7, .int v7)]) hx hb dX11_layRuns_115 hl (Nat.le_of_ble_eq_true rfl) rfl (fun ls hl => ?_)
            refine lv_iload hx hb dX11_layRuns_117 (lv_at hl 1 rfl) ?_
            refine lv_if_eq (tgt := 163) hx hb dX11_layRuns_119 (by decide) (fun c9 => ?_) (fun c9 => absurd c9 (by decide))
            refine lv_iload hx hb dX11_layRuns_163 (lv_at hl 1 rfl) ?_
            refine lv_if_eq (tgt := 182) hx hb dX11_layRuns_165 (by decide) (fun c9 => ?_) (fun c9 => absurd c9 (by decide))
            refine lv_iinc (v := v7 + 1) (lv' := [(7, .int (v7 + 1)), (9, .int (0 : Int32)), (8, .int (0 : Int32)), (0, .ref (xx 0)), (1, .int v1), (2, .int v2), (3, .int v3), (4, .int v4), (5, .int v5), (6, .int v6)]) hx hb dX11_layRuns_182 hl (k := 9) rfl (by rw [li_1]) (Nat.le_of_ble_eq_true rfl) rfl (fun ls hl => ?_)
            refine lv_goto (tgt := 67) hx hb dX11_layRuns_185 (by decide) ?_
            exact ih v3 (v7 + 1) σxx _ _ _ hP hD hS (lv_sub hl [3, 4, 5, 6, 7, 8, 9, 0] rfl) h
          · have h := if_t c13 h
            refine lv_iconst (v := 1) hx hb dX11_layRuns_110 li_1 ?_
            refine lv_goto (tgt := 115) hx hb dX11_layRuns_111 (by decide) ?_
            refine lv_istore (lv' := [(9, .int (1 : Int32)), (8, .int (0 : Int32)), (0, .ref (xx 0)), (1, .int v1), (2, .int v2), (3, .int v3), (4, .int v4), (5, .int v5), (6, .int v6), (7, .int v7)]) hx hb dX11_layRuns_115 hl (Nat.le_of_ble_eq_true rfl) rfl (fun ls hl => ?_)
            refine lv_iload hx hb dX11_layRuns_117 (lv_at hl 1 rfl) ?_
            refine lv_if_eq (tgt := 163) hx hb dX11_layRuns_119 (by decide) (fun c9 => ?_) (fun c9 => absurd c9 (by decide))
            refine lv_iload hx hb dX11_layRuns_163 (lv_at hl 1 rfl) ?_
            refine lv_if_eq (tgt := 182) hx hb dX11_layRuns_165 (by decide) (fun c9 => ?_) (fun c9 => absurd c9 (by decide))
            refine lv_iinc (v := v7 + 1) (lv' := [(7, .int (v7 + 1)), (9, .int (1 : Int32)), (8, .int (0 : Int32)), (0, .ref (xx 0)), (1, .int v1), (2, .int v2), (3, .int v3), (4, .int v4), (5, .int v5), (6, .int v6)]) hx hb dX11_layRuns_182 hl (k := 9) rfl (by rw [li_1]) (Nat.le_of_ble_eq_true rfl) rfl (fun ls hl => ?_)
            refine lv_goto (tgt := 67) hx hb dX11_layRuns_185 (by decide) ?_
            exact ih v3 (v7 + 1) σxx _ _ _ hP hD hS (lv_sub hl [3, 4, 5, 6, 7, 8, 9, 0] rfl) h
      · have h := if_t c11 h
        refine lv_iconst (v := 1) hx hb dX11_layRuns_85 li_1 ?_
        refine lv_goto (tgt := 90) hx hb dX11_layRuns_86 (by decide) ?_
        refine lv_istore (lv' := [(8, .int (1 : Int32)), (0, .ref (xx 0)), (1, .int v1), (2, .int v2), (3, .int v3), (4, .int v4), (5, .int v5), (6, .int v6), (7, .int v7)]) hx hb dX11_layRuns_90 hl (Nat.le_of_ble_eq_true rfl) rfl (fun ls hl => ?_)
        refine lv_iload hx hb dX11_layRuns_92 (lv_at hl 8 rfl) ?_
        refine lv_if_le (tgt := 114) hx hb dX11_layRuns_94 (by decide) (fun c14 => ?_) (fun c14 => ?_)
        · have h := if_t c14 h
          refine lv_iconst (v := 0) hx hb dX11_layRuns_114 li_0 ?_
          refine lv_istore (lv' := [(9, .int (0 : Int32)), (8, .int (1 : Int32)), (0, .ref (xx 0)), (1, .int v1), (2, .int v2), (3, .int v3), (4, .int v4), (5, .int v5), (6, .int v6), (7, .int v7)]) hx hb dX11_layRuns_115 hl (Nat.le_of_ble_eq_true rfl) rfl (fun ls hl => ?_)
          refine lv_iload hx hb dX11_layRuns_117 (lv_at hl 1 rfl) ?_
          refine lv_if_eq (tgt := 163) hx hb dX11_layRuns_119 (by decide) (fun c9 => absurd c9 (by decide)) (fun c9 => ?_)
          refine lv_iload hx hb dX11_layRuns_122 (lv_at hl 0 rfl) ?_
          refine lv_if_ne (tgt := 163) hx hb dX11_layRuns_124 (by decide) (fun c9 => absurd c9 (by decide)) (fun c9 => ?_)
          refine lv_aload_n hx hb dX11_layRuns_127 rfl (lv_at hl 2 rfl) ?_
          refine va_get (D := G.1) (cl := vwCl) (tys := tysG G) (ci := 11) (v := .ref (xx 23)) (C := RX11) (T := TX11) (N := 37) hx hb hts iX11 hown hG.1 hP 0 rfl rfl 22 (Nat.le_of_ble_eq_true rfl) (hts _ tw_4_119) (fun _ h9 => h9) rfl dX11_layRuns_128 ?_
          refine lv_iconst (v := 3) hx hb dX11_layRuns_131 li_3 ?_
          refine lv_iload_n hx hb dX11_layRuns_132 rfl (lv_at hl 5 rfl) ?_
          refine lv_imul hx hb dX11_layRuns_133 ?_
          refine lv_iload hx hb dX11_layRuns_134 (lv_at hl 7 rfl) ?_
          obtain ⟨ck15, h⟩ := ck h
          obtain ⟨s16, e17, h⟩ := nm_ex h
          refine va_iast hx hb hG.1 hP hD hS 11 0 rfl rfl ck15 dX11_layRuns_136 (fun H locs hP hD hS => ?_)
          have hP : va_P G.1 vwCl (List.flatten [wX G xx s16]) H := by rw [e17]; exact hP
          have hD : va_D A (List.flatten [wX G xx s16]) := by rw [e17]; exact hD
          refine lv_aload_n hx hb dX11_layRuns_137 rfl (lv_at hl 2 rfl) ?_
          refine va_get (D := G.1) (cl := vwCl) (tys := tysG G) (ci := 11) (v := .ref (xx 23)) (C := RX11) (T := TX11) (N := 37) hx hb hts iX11 hown hG.1 hP 0 rfl rfl 22 (Nat.le_of_ble_eq_true rfl) (hts _ tw_4_119) (fun _ h9 => h9) rfl dX11_layRuns_138 ?_
          refine lv_iconst (v := 3) hx hb dX11_layRuns_141 li_3 ?_
          refine lv_iload_n hx hb dX11_layRuns_142 rfl (lv_at hl 5 rfl) ?_
          refine lv_imul hx hb dX11_layRuns_143 ?_
          refine lv_iconst (v := 1) hx hb dX11_layRuns_144 li_1 ?_
          refine lv_iadd hx hb dX11_layRuns_145 ?_
          refine lv_iload hx hb dX11_layRuns_146 (lv_at hl 9 rfl) ?_
          obtain ⟨ck18, h⟩ := ck h
          obtain ⟨s19, e20, h⟩ := nm_ex h
          refine va_iast hx hb hG.1 hP hD hS 11 0 rfl rfl ck18 dX11_layRuns_148 (fun H locs hP hD hS => ?_)
          have hP : va_P G.1 vwCl (List.flatten [wX G xx s19]) H := by rw [e20]; exact hP
          have hD : va_D A (List.flatten [wX G xx s19]) := by rw [e20]; exact hD
          refine lv_aload_n hx hb dX11_layRuns_149 rfl (lv_at hl 2 rfl) ?_
          refine va_get (D := G.1) (cl := vwCl) (tys := tysG G) (ci := 11) (v := .ref (xx 23)) (C := RX11) (T := TX11) (N := 37) hx hb hts iX11 hown hG.1 hP 0 rfl rfl 22 (Nat.le_of_ble_eq_true rfl) (hts _ tw_4_119) (fun _ h9 => h9) rfl dX11_layRuns_150 ?_
          refine lv_iconst (v := 3) hx hb dX11_layRuns_153 li_3 ?_
          refine lv_iload_n hx hb dX11_layRuns_154 rfl (lv_at hl 5 rfl) ?_
          refine lv_imul hx hb dX11_layRuns_155 ?_
          refine lv_iconst (v := 2) hx hb dX11_layRuns_156 li_2 ?_
          refine lv_iadd hx hb dX11_layRuns_157 ?_
          refine lv_iconst (v := 0) hx hb dX11_layRuns_158 li_0 ?_
          obtain ⟨ck21, h⟩ := ck h
          obtain ⟨s22, e23, h⟩ := nm_ex h
          refine va_iast hx hb hG.1 hP hD hS 11 0 rfl rfl ck21 dX11_layRuns_159 (fun H locs hP hD hS => ?_)
          have hP : va_P G.1 vwCl (List.flatten [wX G xx s22]) H := by rw [e23]; exact hP
          have hD : va_D A (List.flatten [wX G xx s22]) := by rw [e23]; exact hD
          refine lv_iinc (v := v3 + 1) (lv' := [(3, .int (v3 + 1)), (9, .int (0 : Int32)), (8, .int (1 : Int32)), (0, .ref (xx 0)), (1, .int v1), (2, .int v2), (4, .int v4), (5, .int v5), (6, .int v6), (7, .int v7)]) hx hb dX11_layRuns_160 hl (k := 5) rfl (by rw [li_1]) (Nat.le_of_ble_eq_true rfl) rfl (fun ls hl => ?_)
          refine lv_iload hx hb dX11_layRuns_163 (lv_at hl 2 rfl) ?_
          refine lv_if_eq (tgt := 182) hx hb dX11_layRuns_165 (by decide) (fun c9 => absurd c9 (by decide)) (fun c9 => ?_)
          refine lv_aload_n hx hb dX11_layRuns_168 rfl (lv_at hl 3 rfl) ?_
          refine va_get (D := G.1) (cl := vwCl) (tys := tysG G) (ci := 11) (v := .ref (xx 23)) (C := RX11) (T := TX11) (N := 37) hx hb hts iX11 hown hG.1 hP 0 rfl rfl 22 (Nat.le_of_ble_eq_true rfl) (hts _ tw_4_119) (fun _ h9 => h9) rfl dX11_layRuns_169 ?_
          refine lv_iconst (v := 3) hx hb dX11_layRuns_172 li_3 ?_
          refine lv_iload_n hx hb dX11_layRuns_173 rfl (lv_at hl 0 rfl) ?_
          refine lv_imul hx hb dX11_layRuns_174 ?_
          refine lv_iconst (v := 1) hx hb dX11_layRuns_175 li_1 ?_
          refine lv_isub hx hb dX11_layRuns_176 ?_
          refine lv_dup2_11 hx hb dX11_layRuns_177 rfl rfl ?_
          obtain ⟨ck24, h⟩ := ck h
          refine va_iald hx hb hG.1 hP 11 0 rfl rfl ck24 dX11_layRuns_178 ?_
          refine lv_iconst (v := 1) hx hb dX11_layRuns_179 li_1 ?_
          refine lv_iadd hx hb dX11_layRuns_180 ?_
          obtain ⟨s25, e26, h⟩ := nm_ex h
          refine va_iast hx hb hG.1 hP hD hS 11 0 rfl rfl ck24 dX11_layRuns_181 (fun H locs hP hD hS => ?_)
          have hP : va_P G.1 vwCl (List.flatten [wX G xx s25]) H := by rw [e26]; exact hP
          have hD : va_D A (List.flatten [wX G xx s25]) := by rw [e26]; exact hD
          refine lv_iinc (v := v7 + 1) (lv' := [(7, .int (v7 + 1)), (3, .int (v3 + 1)), (9, .int (0 : Int32)), (8, .int (1 : Int32)), (0, .ref (xx 0)), (1, .int v1), (2, .int v2), (4, .int v4), (5, .int v5), (6, .int v6)]) hx hb dX11_layRuns_182 hl (k := 9) rfl (by rw [li_1]) (Nat.le_of_ble_eq_true rfl) rfl (fun ls hl => ?_)
          refine lv_goto (tgt := 67) hx hb dX11_layRuns_185 (by decide) ?_
          exact ih (v3 + 1) (v7 + 1) s25 _ _ _ hP hD hS (lv_sub hl [4, 5, 6, 1, 7, 8, 9, 0] rfl) h
        · have h := if_f c14 h
          refine lv_iload hx hb dX11_layRuns_97 (lv_at hl 7 rfl) ?_
          refine lv_iload hx hb dX11_layRuns_99 (lv_at hl 8 rfl) ?_
          refine lv_iconst (v := 1) hx hb dX11_layRuns_101 li_1 ?_
          refine lv_isub hx hb dX11_layRuns_102 ?_
          refine lv_ishr hx hb dX11_layRuns_103 ?_
          refine lv_iconst (v := 1) hx hb dX11_layRuns_104 li_1 ?_
          refine lv_iand hx hb dX11_layRuns_105 ?_
          refine lv_iconst (v := 1) hx hb dX11_layRuns_106 li_1 ?_
          refine lv_icmp_ne (tgt := 114) hx hb dX11_layRuns_107 (by decide) (fun c27 => ?_) (fun c27 => ?_)
          · have h := if_f c27 h
            refine lv_iconst (v := 0) hx hb dX11_layRuns_114 li_0 ?_
            refine lv_istore (lv' := [(9, .int (0 : Int32)), (8, .int (1 : Int32)), (0, .ref (xx 0)), (1, .int v1), (2, .int v2), (3, .int v3), (4, .int v4), (5, .int v5), (6, .int v6), (7, .int v7)]) hx hb dX11_layRuns_115 hl (Nat.le_of_ble_eq_true rfl) rfl (fun ls hl => ?_)
            refine lv_iload hx hb dX11_layRuns_117 (lv_at hl 1 rfl) ?_
            refine lv_if_eq (tgt := 163) hx hb dX11_layRuns_119 (by decide) (fun c9 => absurd c9 (by decide)) (fun c9 => ?_)
            refine lv_iload hx hb dX11_layRuns_122 (lv_at hl 0 rfl) ?_
            refine lv_if_ne (tgt := 163) hx hb dX11_layRuns_124 (by decide) (fun c9 => absurd c9 (by decide)) (fun c9 => ?_)
            refine lv_aload_n hx hb dX11_layRuns_127 rfl (lv_at hl 2 rfl) ?_
            refine va_get (D := G.1) (cl := vwCl) (tys := tysG G) (ci := 11) (v := .ref (xx 23)) (C := RX11) (T := TX11) (N := 37) hx hb hts iX11 hown hG.1 hP 0 rfl rfl 22 (Nat.le_of_ble_eq_true rfl) (hts _ tw_4_119) (fun _ h9 => h9) rfl dX11_layRuns_128 ?_
            refine lv_iconst (v := 3) hx hb dX11_layRuns_131 li_3 ?_
            refine lv_iload_n hx hb dX11_layRuns_132 rfl (lv_at hl 5 rfl) ?_
            refine lv_imul hx hb dX11_layRuns_133 ?_
            refine lv_iload hx hb dX11_layRuns_134 (lv_at hl 7 rfl) ?_
            obtain ⟨ck28, h⟩ := ck h
            obtain ⟨s29, e30, h⟩ := nm_ex h
            refine va_iast hx hb hG.1 hP hD hS 11 0 rfl rfl ck28 dX11_layRuns_136 (fun H locs hP hD hS => ?_)
            have hP : va_P G.1 vwCl (List.flatten [wX G xx s29]) H := by rw [e30]; exact hP
            have hD : va_D A (List.flatten [wX G xx s29]) := by rw [e30]; exact hD
            refine lv_aload_n hx hb dX11_layRuns_137 rfl (lv_at hl 2 rfl) ?_
            refine va_get (D := G.1) (cl := vwCl) (tys := tysG G) (ci := 11) (v := .ref (xx 23)) (C := RX11) (T := TX11) (N := 37) hx hb hts iX11 hown hG.1 hP 0 rfl rfl 22 (Nat.le_of_ble_eq_true rfl) (hts _ tw_4_119) (fun _ h9 => h9) rfl dX11_layRuns_138 ?_
            refine lv_iconst (v := 3) hx hb dX11_layRuns_141 li_3 ?_
            refine lv_iload_n hx hb dX11_layRuns_142 rfl (lv_at hl 5 rfl) ?_
            refine lv_imul hx hb dX11_layRuns_143 ?_
            refine lv_iconst (v := 1) hx hb dX11_layRuns_144 li_1 ?_
            refine lv_iadd hx hb dX11_layRuns_145 ?_
            refine lv_iload hx hb dX11_layRuns_146 (lv_at hl 9 rfl) ?_
            obtain ⟨ck31, h⟩ := ck h
            obtain ⟨s32, e33, h⟩ := nm_ex h
            refine va_iast hx hb hG.1 hP hD hS 11 0 rfl rfl ck31 dX11_layRuns_148 (fun H locs hP hD hS => ?_)
            have hP : va_P G.1 vwCl (List.flatten [wX G xx s32]) H := by rw [e33]; exact hP
            have hD : va_D A (List.flatten [wX G xx s32]) := by rw [e33]; exact hD
            refine lv_aload_n hx hb dX11_layRuns_149 rfl (lv_at hl 2 rfl) ?_
            refine va_get (D := G.1) (cl := vwCl) (tys := tysG G) (ci := 11) (v := .ref (xx 23)) (C := RX11) (T := TX11) (N := 37) hx hb hts iX11 hown hG.1 hP 0 rfl rfl 22 (Nat.le_of_ble_eq_true rfl) (hts _ tw_4_119) (fun _ h9 => h9) rfl dX11_layRuns_150 ?_
            refine lv_iconst (v := 3) hx hb dX11_layRuns_153 li_3 ?_
            refine lv_iload_n hx hb dX11_layRuns_154 rfl (lv_at hl 5 rfl) ?_
            refine lv_imul hx hb dX11_layRuns_155 ?_
            refine lv_iconst (v := 2) hx hb dX11_layRuns_156 li_2 ?_
            refine lv_iadd hx hb dX11_layRuns_157 ?_
            refine lv_iconst (v := 0) hx hb dX11_layRuns_158 li_0 ?_
            obtain ⟨ck34, h⟩ := ck h
            obtain ⟨s35, e36, h⟩ := nm_ex h
            refine va_iast hx hb hG.1 hP hD hS 11 0 rfl rfl ck34 dX11_layRuns_159 (fun H locs hP hD hS => ?_)
            have hP : va_P G.1 vwCl (List.flatten [wX G xx s35]) H := by rw [e36]; exact hP
            have hD : va_D A (List.flatten [wX G xx s35]) := by rw [e36]; exact hD
            refine lv_iinc (v := v3 + 1) (lv' := [(3, .int (v3 + 1)), (9, .int (0 : Int32)), (8, .int (1 : Int32)), (0, .ref (xx 0)), (1, .int v1), (2, .int v2), (4, .int v4), (5, .int v5), (6, .int v6), (7, .int v7)]) hx hb dX11_layRuns_160 hl (k := 5) rfl (by rw [li_1]) (Nat.le_of_ble_eq_true rfl) rfl (fun ls hl => ?_)
            refine lv_iload hx hb dX11_layRuns_163 (lv_at hl 2 rfl) ?_
            refine lv_if_eq (tgt := 182) hx hb dX11_layRuns_165 (by decide) (fun c9 => absurd c9 (by decide)) (fun c9 => ?_)
            refine lv_aload_n hx hb dX11_layRuns_168 rfl (lv_at hl 3 rfl) ?_
            refine va_get (D := G.1) (cl := vwCl) (tys := tysG G) (ci := 11) (v := .ref (xx 23)) (C := RX11) (T := TX11) (N := 37) hx hb hts iX11 hown hG.1 hP 0 rfl rfl 22 (Nat.le_of_ble_eq_true rfl) (hts _ tw_4_119) (fun _ h9 => h9) rfl dX11_layRuns_169 ?_
            refine lv_iconst (v := 3) hx hb dX11_layRuns_172 li_3 ?_
            refine lv_iload_n hx hb dX11_layRuns_173 rfl (lv_at hl 0 rfl) ?_
            refine lv_imul hx hb dX11_layRuns_174 ?_
            refine lv_iconst (v := 1) hx hb dX11_layRuns_175 li_1 ?_
            refine lv_isub hx hb dX11_layRuns_176 ?_
            refine lv_dup2_11 hx hb dX11_layRuns_177 rfl rfl ?_
            obtain ⟨ck37, h⟩ := ck h
            refine va_iald hx hb hG.1 hP 11 0 rfl rfl ck37 dX11_layRuns_178 ?_
            refine lv_iconst (v := 1) hx hb dX11_layRuns_179 li_1 ?_
            refine lv_iadd hx hb dX11_layRuns_180 ?_
            obtain ⟨s38, e39, h⟩ := nm_ex h
            refine va_iast hx hb hG.1 hP hD hS 11 0 rfl rfl ck37 dX11_layRuns_181 (fun H locs hP hD hS => ?_)
            have hP : va_P G.1 vwCl (List.flatten [wX G xx s38]) H := by rw [e39]; exact hP
            have hD : va_D A (List.flatten [wX G xx s38]) := by rw [e39]; exact hD
            refine lv_iinc (v := v7 + 1) (lv' := [(7, .int (v7 + 1)), (3, .int (v3 + 1)), (9, .int (0 : Int32)), (8, .int (1 : Int32)), (0, .ref (xx 0)), (1, .int v1), (2, .int v2), (4, .int v4), (5, .int v5), (6, .int v6)]) hx hb dX11_layRuns_182 hl (k := 9) rfl (by rw [li_1]) (Nat.le_of_ble_eq_true rfl) rfl (fun ls hl => ?_)
            refine lv_goto (tgt := 67) hx hb dX11_layRuns_185 (by decide) ?_
            exact ih (v3 + 1) (v7 + 1) s38 _ _ _ hP hD hS (lv_sub hl [4, 5, 6, 1, 7, 8, 9, 0] rfl) h
          · have h := if_t c27 h
            refine lv_iconst (v := 1) hx hb dX11_layRuns_110 li_1 ?_
            refine lv_goto (tgt := 115) hx hb dX11_layRuns_111 (by decide) ?_
            refine lv_istore (lv' := [(9, .int (1 : Int32)), (8, .int (1 : Int32)), (0, .ref (xx 0)), (1, .int v1), (2, .int v2), (3, .int v3), (4, .int v4), (5, .int v5), (6, .int v6), (7, .int v7)]) hx hb dX11_layRuns_115 hl (Nat.le_of_ble_eq_true rfl) rfl (fun ls hl => ?_)
            refine lv_iload hx hb dX11_layRuns_117 (lv_at hl 1 rfl) ?_
            refine lv_if_eq (tgt := 163) hx hb dX11_layRuns_119 (by decide) (fun c9 => absurd c9 (by decide)) (fun c9 => ?_)
            refine lv_iload hx hb dX11_layRuns_122 (lv_at hl 0 rfl) ?_
            refine lv_if_ne (tgt := 163) hx hb dX11_layRuns_124 (by decide) (fun c9 => ?_) (fun c9 => absurd c9 (by decide))
            refine lv_iload hx hb dX11_layRuns_163 (lv_at hl 1 rfl) ?_
            refine lv_if_eq (tgt := 182) hx hb dX11_layRuns_165 (by decide) (fun c9 => absurd c9 (by decide)) (fun c9 => ?_)
            refine lv_aload_n hx hb dX11_layRuns_168 rfl (lv_at hl 2 rfl) ?_
            refine va_get (D := G.1) (cl := vwCl) (tys := tysG G) (ci := 11) (v := .ref (xx 23)) (C := RX11) (T := TX11) (N := 37) hx hb hts iX11 hown hG.1 hP 0 rfl rfl 22 (Nat.le_of_ble_eq_true rfl) (hts _ tw_4_119) (fun _ h9 => h9) rfl dX11_layRuns_169 ?_
            refine lv_iconst (v := 3) hx hb dX11_layRuns_172 li_3 ?_
            refine lv_iload_n hx hb dX11_layRuns_173 rfl (lv_at hl 5 rfl) ?_
            refine lv_imul hx hb dX11_layRuns_174 ?_
            refine lv_iconst (v := 1) hx hb dX11_layRuns_175 li_1 ?_
            refine lv_isub hx hb dX11_layRuns_176 ?_
            refine lv_dup2_11 hx hb dX11_layRuns_177 rfl rfl ?_
            obtain ⟨ck40, h⟩ := ck h
            refine va_iald hx hb hG.1 hP 11 0 rfl rfl ck40 dX11_layRuns_178 ?_
            refine lv_iconst (v := 1) hx hb dX11_layRuns_179 li_1 ?_
            refine lv_iadd hx hb dX11_layRuns_180 ?_
            obtain ⟨s41, e42, h⟩ := nm_ex h
            refine va_iast hx hb hG.1 hP hD hS 11 0 rfl rfl ck40 dX11_layRuns_181 (fun H locs hP hD hS => ?_)
            have hP : va_P G.1 vwCl (List.flatten [wX G xx s41]) H := by rw [e42]; exact hP
            have hD : va_D A (List.flatten [wX G xx s41]) := by rw [e42]; exact hD
            refine lv_iinc (v := v7 + 1) (lv' := [(7, .int (v7 + 1)), (9, .int (1 : Int32)), (8, .int (1 : Int32)), (0, .ref (xx 0)), (1, .int v1), (2, .int v2), (3, .int v3), (4, .int v4), (5, .int v5), (6, .int v6)]) hx hb dX11_layRuns_182 hl (k := 9) rfl (by rw [li_1]) (Nat.le_of_ble_eq_true rfl) rfl (fun ls hl => ?_)
            refine lv_goto (tgt := 67) hx hb dX11_layRuns_185 (by decide) ?_
            exact ih v3 (v7 + 1) s41 _ _ _ hP hD hS (lv_sub hl [3, 4, 5, 6, 7, 8, 9, 0] rfl) h
def gbX11_layRuns_37 (F : Nat) (v1 : Int32) (v2 : Int32) (v4 : Int32) (rc : Int32 → Int32 → ST → Option (Int32 × Int32 × ST)) (v3 : Int32) (v5 : Int32) (σxx : ST) : Option (Int32 × Int32 × ST) :=
  if (((4 : Int32) * v1) + (3 : Int32)) < 0 ∨ 12 ≤ (((4 : Int32) * v1) + (3 : Int32)).toNatClampNeg then none else
  if (σxx.2.1 8 (((4 : Int32) * v1) + (3 : Int32)).toNatClampNeg) < v5 then
    some (v3, v5, σxx)
  else
    (fX11_darkOf F σxx v2 v5).bind fun r8 =>
    (gX11_layRuns_67 F v1 v2 v4 v5 (r8 &&& v4) F v3 (0 : Int32) σxx).bind fun z43 =>
      rc z43.1 (v5 + 1) z43.2.2
def gX11_layRuns_37 (F : Nat) (v1 : Int32) (v2 : Int32) (v4 : Int32) : Nat → Int32 → Int32 → ST → Option (Int32 × Int32 × ST)
  | 0, _, _, _ => none
  | n + 1, v3, v5, σxx => gbX11_layRuns_37 F v1 v2 v4 (gX11_layRuns_37 F v1 v2 v4 n) v3 v5 σxx
set_option maxHeartbeats 4000000 in
set_option maxRecDepth 100000 in
theorem kX11_layRuns_37 {p : Program} {l : Launch} {e : Env} {s : State} {m : MethodId} {args : Array Value} {below : List Frame} {meth : Method} {c : Code} {A : Nat → Prop} {Q : State → Prop} {G : GP} (K : Cx p s m meth c G cX11_layRuns RX11 10 (some .int) args A) (F : Nat) (xx : Nat → Nat) (v1 : Int32) (v2 : Int32) (v4 : Int32) {z : Int32 × Int32 × ST} (kk : ∀ (H : Heap) (locs : List Loc) (ls : Array Slot), va_P G.1 vwCl (List.flatten [wX G xx z.2.2]) H → va_D A (List.flatten [wX G xx z.2.2]) → va_S A s.heap H locs → lv_has ls 10 [(0, .ref (xx 0)), (1, .int v1), (2, .int v2), (3, .int z.1), (4, .int v4), (5, .int z.2.1)] → W p l e (RM 5) s m args below meth c H locs 0 0 Q (F0 m 194 ls [])) :
    ∀ (n : Nat) (v3 : Int32) (v5 : Int32) (σxx : ST) (H : Heap) (locs : List Loc) (ls : Array Slot), va_P G.1 vwCl (List.flatten [wX G xx σxx]) H → va_D A (List.flatten [wX G xx σxx]) → va_S A s.heap H locs → lv_has ls 10 [(0, .ref (xx 0)), (1, .int v1), (2, .int v2), (3, .int v3), (4, .int v4), (5, .int v5)] → gX11_layRuns_37 F v1 v2 v4 n v3 v5 σxx = some z → W p l e (RM 5) s m args below meth c H locs 0 0 Q (F0 m 37 ls []) := by
  obtain ⟨hx, hb, hr, hml, hts, hown, hlocks, hA, hG⟩ := id K
  intro n
  induction n with
  | zero =>
    intro v3 v5 σxx H locs ls hP hD hS hl h
    have h : none = some z := h
    cases h
  | succ n ih =>
    intro v3 v5 σxx H locs ls hP hD hS hl h
    have h : gbX11_layRuns_37 F v1 v2 v4 (gX11_layRuns_37 F v1 v2 v4 n) v3 v5 σxx = some z := h
    unfold gbX11_layRuns_37 at h
    refine lv_iload hx hb dX11_layRuns_37 (lv_at hl 5 rfl) ?_
    refine lv_aload_n hx hb dX11_layRuns_39 rfl (lv_at hl 0 rfl) ?_
    refine va_get (D := G.1) (cl := vwCl) (tys := tysG G) (ci := 11) (v := .ref (xx 9)) (C := RX11) (T := TX11) (N := 37) hx hb hts iX11 hown hG.1 hP 0 rfl rfl 8 (Nat.le_of_ble_eq_true rfl) (hts _ tw_4_105) (fun _ h9 => h9) rfl dX11_layRuns_40 ?_
    refine lv_iconst (v := 4) hx hb dX11_layRuns_43 li_4 ?_
    refine lv_iload_n hx hb dX11_layRuns_44 rfl (lv_at hl 1 rfl) ?_
    refine lv_imul hx hb dX11_layRuns_45 ?_
    refine lv_iconst (v := 3) hx hb dX11_layRuns_46 li_3 ?_
    refine lv_iadd hx hb dX11_layRuns_47 ?_
    obtain ⟨ck6, h⟩ := ck h
    refine va_iald hx hb hG.1 hP 6 0 rfl rfl ck6 dX11_layRuns_48 ?_
    refine lv_icmp_gt (tgt := 194) hx hb dX11_layRuns_49 (by decide) (fun c7 => ?_) (fun c7 => ?_)
    · have h := if_t c7 h
      cases h
      exact kk _ _ _ hP hD hS (lv_sub hl [0, 1, 2, 3, 4, 5] rfl)
    · have h := if_f c7 h
      refine lv_aload_n hx hb dX11_layRuns_52 rfl (lv_at hl 0 rfl) ?_
      refine lv_iload_n hx hb dX11_layRuns_53 rfl (lv_at hl 2 rfl) ?_
      refine lv_iload hx hb dX11_layRuns_54 (lv_at hl 5 rfl) ?_
      obtain ⟨r8, hc9, h⟩ := bd_ex h
      refine sl_V (q0 := 0) (ci := 11) (C := RX11) K (mX11_darkOf l G F xx σxx v2 v5 hc9) tw_5_103 tw_1_12 tw_5_102 tw_0_12 tw_5_100 cdX11_darkOf ⟨Nat.le_of_ble_eq_true rfl, Nat.le_of_ble_eq_true rfl⟩ hP hD hS [0] rfl rfl rfl rfl rfl rfl rfl hl.1 (Nat.le_of_ble_eq_true rfl) ⟨Nat.zero_le _, Nat.zero_le _⟩ dX11_layRuns_56 (fun H locs hP hD hS => ?_)
      have hP : va_P G.1 vwCl (List.flatten [wX G xx σxx]) H := hP
      have hD : va_D A (List.flatten [wX G xx σxx]) := hD
      refine lv_iload hx hb dX11_layRuns_59 (lv_at hl 4 rfl) ?_
      refine lv_iand hx hb dX11_layRuns_61 ?_
      refine lv_istore (lv' := [(6, .int (r8 &&& v4)), (0, .ref (xx 0)), (1, .int v1), (2, .int v2), (3, .int v3), (4, .int v4), (5, .int v5)]) hx hb dX11_layRuns_62 hl (Nat.le_of_ble_eq_true rfl) rfl (fun ls hl => ?_)
      refine lv_iconst (v := 0) hx hb dX11_layRuns_64 li_0 ?_
      refine lv_istore (lv' := [(7, .int (0 : Int32)), (6, .int (r8 &&& v4)), (0, .ref (xx 0)), (1, .int v1), (2, .int v2), (3, .int v3), (4, .int v4), (5, .int v5)]) hx hb dX11_layRuns_65 hl (Nat.le_of_ble_eq_true rfl) rfl (fun ls hl => ?_)
      obtain ⟨z43, hz44, h⟩ := bd_ex h
      refine kX11_layRuns_67 K F xx v1 v2 v4 v5 (r8 &&& v4) (fun H locs ls hP hD hS hl => ?_) F v3 (0 : Int32) σxx _ _ _ hP hD hS (lv_sub hl [2, 3, 4, 5, 6, 7, 1, 0] rfl) hz44
      refine lv_iinc (v := v5 + 1) (lv' := [(5, .int (v5 + 1)), (0, .ref (xx 0)), (1, .int v1), (2, .int v2), (3, .int z43.1), (4, .int v4), (6, .int (r8 &&& v4)), (7, .int z43.2.1)]) hx hb dX11_layRuns_188 hl (k := 5) rfl (by rw [li_1]) (Nat.le_of_ble_eq_true rfl) rfl (fun ls hl => ?_)
      refine lv_goto (tgt := 37) hx hb dX11_layRuns_191 (by decide) ?_
      exact ih z43.1 (v5 + 1) z43.2.2 _ _ _ hP hD hS (lv_sub hl [1, 2, 3, 4, 5, 0] rfl) h
def fX11_layRuns (F : Nat) (σxx : ST) (x1 : Int32) (x2 : Int32) : Option (Int32 × ST) :=
  if ((4 : Int32) * x1) < 0 ∨ 12 ≤ ((4 : Int32) * x1).toNatClampNeg then none else
  if (((4 : Int32) * x1) + (1 : Int32)) < 0 ∨ 12 ≤ (((4 : Int32) * x1) + (1 : Int32)).toNatClampNeg then none else
  (fX11_bits F (σxx.2.1 8 ((4 : Int32) * x1).toNatClampNeg) (σxx.2.1 8 (((4 : Int32) * x1) + (1 : Int32)).toNatClampNeg)).bind fun r3 =>
  if (((4 : Int32) * x1) + (2 : Int32)) < 0 ∨ 12 ≤ (((4 : Int32) * x1) + (2 : Int32)).toNatClampNeg then none else
  (gX11_layRuns_37 F x1 x2 r3 F (0 : Int32) (σxx.2.1 8 (((4 : Int32) * x1) + (2 : Int32)).toNatClampNeg) σxx).bind fun z45 =>
    some (z45.1, z45.2.2)
theorem cdX11_layRuns : CallD yX11_layRuns 2 := by decide +kernel
set_option maxHeartbeats 4000000 in
set_option maxRecDepth 100000 in
theorem mX11_layRuns (l : Launch) (G : GP) (F : Nat) (xx : Nat → Nat) (σxx : ST) (x1 : Int32) (x2 : Int32) {r : Int32 × ST} (h : fX11_layRuns F σxx x1 x2 = some r) : CC l G yX11_layRuns cX11_layRuns 10 (some .int) 5 [.ref (xx 0), .int x1, .int x2] (List.flatten [wX G xx σxx]) (List.flatten [wX G xx r.2]) (some (.int r.1)) := by
  refine CC.of (by decide) (Nat.le_of_ble_eq_true rfl) ?_
  intro p e s m below meth c A K hP hD hS ls hl
  obtain ⟨hx, hb, hr, hml, hts, hown, hlocks, hA, hG⟩ := id K
  have hl : lv_has ls 10 [(0, .ref (xx 0)), (1, .int x1), (2, .int x2)] := hl
  unfold fX11_layRuns at h
  refine lv_iconst (v := 0) hx hb dX11_layRuns_0 li_0 ?_
  refine lv_istore_n (lv' := [(3, .int (0 : Int32)), (0, .ref (xx 0)), (1, .int x1), (2, .int x2)]) hx hb dX11_layRuns_1 rfl hl (Nat.le_of_ble_eq_true rfl) rfl (fun ls hl => ?_)
  refine lv_aload_n hx hb dX11_layRuns_2 rfl (lv_at hl 1 rfl) ?_
  refine va_get (D := G.1) (cl := vwCl) (tys := tysG G) (ci := 11) (v := .ref (xx 9)) (C := RX11) (T := TX11) (N := 37) hx hb hts iX11 hown hG.1 hP 0 rfl rfl 8 (Nat.le_of_ble_eq_true rfl) (hts _ tw_4_105) (fun _ h9 => h9) rfl dX11_layRuns_3 ?_
  refine lv_iconst (v := 4) hx hb dX11_layRuns_6 li_4 ?_
  refine lv_iload_n hx hb dX11_layRuns_7 rfl (lv_at hl 2 rfl) ?_
  refine lv_imul hx hb dX11_layRuns_8 ?_
  obtain ⟨ck1, h⟩ := ck h
  refine va_iald hx hb hG.1 hP 6 0 rfl rfl ck1 dX11_layRuns_9 ?_
  refine lv_aload_n hx hb dX11_layRuns_10 rfl (lv_at hl 1 rfl) ?_
  refine va_get (D := G.1) (cl := vwCl) (tys := tysG G) (ci := 11) (v := .ref (xx 9)) (C := RX11) (T := TX11) (N := 37) hx hb hts iX11 hown hG.1 hP 0 rfl rfl 8 (Nat.le_of_ble_eq_true rfl) (hts _ tw_4_105) (fun _ h9 => h9) rfl dX11_layRuns_11 ?_
  refine lv_iconst (v := 4) hx hb dX11_layRuns_14 li_4 ?_
  refine lv_iload_n hx hb dX11_layRuns_15 rfl (lv_at hl 2 rfl) ?_
  refine lv_imul hx hb dX11_layRuns_16 ?_
  refine lv_iconst (v := 1) hx hb dX11_layRuns_17 li_1 ?_
  refine lv_iadd hx hb dX11_layRuns_18 ?_
  obtain ⟨ck2, h⟩ := ck h
  refine va_iald hx hb hG.1 hP 6 0 rfl rfl ck2 dX11_layRuns_19 ?_
  obtain ⟨r3, hc4, h⟩ := bd_ex h
  refine sl_S K (mX11_bits l G F (σxx.2.1 8 ((4 : Int32) * x1).toNatClampNeg) (σxx.2.1 8 (((4 : Int32) * x1) + (1 : Int32)).toNatClampNeg) hc4) tw_5_20 tw_1_12 tw_5_19 tw_5_18 cdX11_bits ⟨Nat.le_of_ble_eq_true rfl, Nat.le_of_ble_eq_true rfl⟩ hP hD hS [] rfl rfl rfl rfl hl.1 (Nat.le_of_ble_eq_true rfl) ⟨Nat.zero_le _, Nat.zero_le _⟩ dX11_layRuns_20 (fun H locs hP hD hS => ?_)
  have hP : va_P G.1 vwCl (List.flatten [wX G xx σxx]) H := hP
  have hD : va_D A (List.flatten [wX G xx σxx]) := hD
  refine lv_istore (lv' := [(4, .int r3), (3, .int (0 : Int32)), (0, .ref (xx 0)), (1, .int x1), (2, .int x2)]) hx hb dX11_layRuns_23 hl (Nat.le_of_ble_eq_true rfl) rfl (fun ls hl => ?_)
  refine lv_aload_n hx hb dX11_layRuns_25 rfl (lv_at hl 2 rfl) ?_
  refine va_get (D := G.1) (cl := vwCl) (tys := tysG G) (ci := 11) (v := .ref (xx 9)) (C := RX11) (T := TX11) (N := 37) hx hb hts iX11 hown hG.1 hP 0 rfl rfl 8 (Nat.le_of_ble_eq_true rfl) (hts _ tw_4_105) (fun _ h9 => h9) rfl dX11_layRuns_26 ?_
  refine lv_iconst (v := 4) hx hb dX11_layRuns_29 li_4 ?_
  refine lv_iload_n hx hb dX11_layRuns_30 rfl (lv_at hl 3 rfl) ?_
  refine lv_imul hx hb dX11_layRuns_31 ?_
  refine lv_iconst (v := 2) hx hb dX11_layRuns_32 li_2 ?_
  refine lv_iadd hx hb dX11_layRuns_33 ?_
  obtain ⟨ck5, h⟩ := ck h
  refine va_iald hx hb hG.1 hP 6 0 rfl rfl ck5 dX11_layRuns_34 ?_
  refine lv_istore (lv' := [(5, .int (σxx.2.1 8 (((4 : Int32) * x1) + (2 : Int32)).toNatClampNeg)), (4, .int r3), (3, .int (0 : Int32)), (0, .ref (xx 0)), (1, .int x1), (2, .int x2)]) hx hb dX11_layRuns_35 hl (Nat.le_of_ble_eq_true rfl) rfl (fun ls hl => ?_)
  obtain ⟨z45, hz46, h⟩ := bd_ex h
  refine kX11_layRuns_37 K F xx x1 x2 r3 (fun H locs ls hP hD hS hl => ?_) F (0 : Int32) (σxx.2.1 8 (((4 : Int32) * x1) + (2 : Int32)).toNatClampNeg) σxx _ _ _ hP hD hS (lv_sub hl [3, 4, 5, 2, 1, 0] rfl) hz46
  refine lv_iload_n hx hb dX11_layRuns_194 rfl (lv_at hl 3 rfl) ?_
  cases h
  exact rt_i K hP hD hS dX11_layRuns_195
def fX11_runs (F : Nat) (σxx : ST) (x1 : Int32) (x2 : Int32) : Option (Int32 × ST) :=
  (fX11_isHill F σxx x1).bind fun r1 =>
  if r1 = 0 then
    some ((-1 : Int32), σxx)
  else
    (fX11_isMinute F x2).bind fun r4 =>
    if r4 = 0 then
      some ((-2 : Int32), σxx)
    else
      (fX11_layRuns F σxx x1 x2).bind fun r7 =>
      some (r7.1, r7.2)
theorem cdX11_runs : CallD yX11_runs 2 := by decide +kernel
set_option maxHeartbeats 4000000 in
set_option maxRecDepth 100000 in
theorem mX11_runs (l : Launch) (G : GP) (F : Nat) (xx : Nat → Nat) (σxx : ST) (x1 : Int32) (x2 : Int32) {r : Int32 × ST} (h : fX11_runs F σxx x1 x2 = some r) : CC l G yX11_runs cX11_runs 3 (some .int) 6 [.ref (xx 0), .int x1, .int x2] (List.flatten [wX G xx σxx]) (List.flatten [wX G xx r.2]) (some (.int r.1)) := by
  refine CC.of (by decide) (Nat.le_of_ble_eq_true rfl) ?_
  intro p e s m below meth c A K hP hD hS ls hl
  obtain ⟨hx, hb, hr, hml, hts, hown, hlocks, hA, hG⟩ := id K
  have hl : lv_has ls 3 [(0, .ref (xx 0)), (1, .int x1), (2, .int x2)] := hl
  unfold fX11_runs at h
  refine lv_aload_n hx hb dX11_runs_0 rfl (lv_at hl 0 rfl) ?_
  refine lv_iload_n hx hb dX11_runs_1 rfl (lv_at hl 1 rfl) ?_
  obtain ⟨r1, hc2, h⟩ := bd_ex h
  refine sl_V (q0 := 0) (ci := 11) (C := RX11) K (mX11_isHill l G F xx σxx x1 hc2) tw_5_51 tw_1_12 tw_5_50 tw_0_9 tw_5_48 cdX11_isHill ⟨Nat.le_of_ble_eq_true rfl, Nat.le_of_ble_eq_true rfl⟩ hP hD hS [0] rfl rfl rfl rfl rfl rfl rfl hl.1 (Nat.le_of_ble_eq_true rfl) ⟨Nat.zero_le _, Nat.zero_le _⟩ dX11_runs_2 (fun H locs hP hD hS => ?_)
  have hP : va_P G.1 vwCl (List.flatten [wX G xx σxx]) H := hP
  have hD : va_D A (List.flatten [wX G xx σxx]) := hD
  refine lv_if_ne (tgt := 10) hx hb dX11_runs_5 (by decide) (fun c3 => ?_) (fun c3 => ?_)
  · have h := if_f c3 h
    refine lv_iload_n hx hb dX11_runs_10 rfl (lv_at hl 2 rfl) ?_
    obtain ⟨r4, hc5, h⟩ := bd_ex h
    refine sl_S K (mX11_isMinute l G F x2 hc5) tw_5_91 tw_1_12 tw_5_90 tw_5_89 cdX11_isMinute ⟨Nat.le_of_ble_eq_true rfl, Nat.le_of_ble_eq_true rfl⟩ hP hD hS [] rfl rfl rfl rfl hl.1 (Nat.le_of_ble_eq_true rfl) ⟨Nat.zero_le _, Nat.zero_le _⟩ dX11_runs_11 (fun H locs hP hD hS => ?_)
    have hP : va_P G.1 vwCl (List.flatten [wX G xx σxx]) H := hP
    have hD : va_D A (List.flatten [wX G xx σxx]) := hD
    refine lv_if_eq (tgt := 26) hx hb dX11_runs_14 (by decide) (fun c6 => ?_) (fun c6 => ?_)
    · have h := if_t c6 h
      refine lv_bipush (v := -2) hx hb dX11_runs_26 lb_m2 ?_
      cases h
      exact rt_i K hP hD hS dX11_runs_28
    · have h := if_f c6 h
      refine lv_aload_n hx hb dX11_runs_17 rfl (lv_at hl 0 rfl) ?_
      refine lv_iload_n hx hb dX11_runs_18 rfl (lv_at hl 1 rfl) ?_
      refine lv_iload_n hx hb dX11_runs_19 rfl (lv_at hl 2 rfl) ?_
      obtain ⟨r7, hc8, h⟩ := bd_ex h
      refine sl_V (q0 := 0) (ci := 11) (C := RX11) K (mX11_layRuns l G F xx σxx x1 x2 hc8) tw_5_118 tw_1_12 tw_5_117 tw_0_14 tw_5_115 cdX11_layRuns ⟨Nat.le_of_ble_eq_true rfl, Nat.le_of_ble_eq_true rfl⟩ hP hD hS [0] rfl rfl rfl rfl rfl rfl rfl hl.1 (Nat.le_of_ble_eq_true rfl) ⟨Nat.zero_le _, Nat.zero_le _⟩ dX11_runs_20 (fun H locs hP hD hS => ?_)
      have hP : va_P G.1 vwCl (List.flatten [wX G xx r7.2]) H := hP
      have hD : va_D A (List.flatten [wX G xx r7.2]) := hD
      refine lv_goto (tgt := 28) hx hb dX11_runs_23 (by decide) ?_
      cases h
      exact rt_i K hP hD hS dX11_runs_28
  · have h := if_t c3 h
    refine lv_iconst (v := -1) hx hb dX11_runs_8 li_m1 ?_
    cases h
    exact rt_i K hP hD hS dX11_runs_9
def fX11_run (F : Nat) (σxx : ST) (x1 : Int32) (x2 : Int32) (x3 : Int32) (x4 : Int32) : Option (Int32 × ST) :=
  (fX11_isHill F σxx x1).bind fun r1 =>
  if r1 = 0 then
    some ((-1 : Int32), σxx)
  else
    (fX11_isMinute F x2).bind fun r4 =>
    if r4 = 0 then
      some ((-2 : Int32), σxx)
    else
      (fX11_in F x4.toInt64 (0 : Int64) (2 : Int64)).bind fun r7 =>
      if r7 = 0 then
        some ((-2 : Int32), σxx)
      else
        (fX11_layRuns F σxx x1 x2).bind fun r10 =>
        (fX11_in F x3.toInt64 (0 : Int64) ((r10.1 - (1 : Int32)).toInt64)).bind fun r12 =>
        if r12 = 0 then
          some ((-9 : Int32), r10.2)
        else
          if (((3 : Int32) * x3) + x4) < 0 ∨ 90 ≤ (((3 : Int32) * x3) + x4).toNatClampNeg then none else
          some (r10.2.2.1 22 (((3 : Int32) * x3) + x4).toNatClampNeg, r10.2)
theorem cdX11_run : CallD yX11_run 4 := by decide +kernel
set_option maxHeartbeats 4000000 in
set_option maxRecDepth 100000 in
theorem mX11_run (l : Launch) (G : GP) (F : Nat) (xx : Nat → Nat) (σxx : ST) (x1 : Int32) (x2 : Int32) (x3 : Int32) (x4 : Int32) {r : Int32 × ST} (h : fX11_run F σxx x1 x2 x3 x4 = some r) : CC l G yX11_run cX11_run 5 (some .int) 6 [.ref (xx 0), .int x1, .int x2, .int x3, .int x4] (List.flatten [wX G xx σxx]) (List.flatten [wX G xx r.2]) (some (.int r.1)) := by
  refine CC.of (by decide) (Nat.le_of_ble_eq_true rfl) ?_
  intro p e s m below meth c A K hP hD hS ls hl
  obtain ⟨hx, hb, hr, hml, hts, hown, hlocks, hA, hG⟩ := id K
  have hl : lv_has ls 5 [(0, .ref (xx 0)), (1, .int x1), (2, .int x2), (3, .int x3), (4, .int x4)] := hl
  unfold fX11_run at h
  refine lv_aload_n hx hb dX11_run_0 rfl (lv_at hl 0 rfl) ?_
  refine lv_iload_n hx hb dX11_run_1 rfl (lv_at hl 1 rfl) ?_
  obtain ⟨r1, hc2, h⟩ := bd_ex h
  refine sl_V (q0 := 0) (ci := 11) (C := RX11) K (mX11_isHill l G F xx σxx x1 hc2) tw_5_51 tw_1_12 tw_5_50 tw_0_9 tw_5_48 cdX11_isHill ⟨Nat.le_of_ble_eq_true rfl, Nat.le_of_ble_eq_true rfl⟩ hP hD hS [0] rfl rfl rfl rfl rfl rfl rfl hl.1 (Nat.le_of_ble_eq_true rfl) ⟨Nat.zero_le _, Nat.zero_le _⟩ dX11_run_2 (fun H locs hP hD hS => ?_)
  have hP : va_P G.1 vwCl (List.flatten [wX G xx σxx]) H := hP
  have hD : va_D A (List.flatten [wX G xx σxx]) := hD
  refine lv_if_ne (tgt := 10) hx hb dX11_run_5 (by decide) (fun c3 => ?_) (fun c3 => ?_)
  · have h := if_f c3 h
    refine lv_iload_n hx hb dX11_run_10 rfl (lv_at hl 2 rfl) ?_
    obtain ⟨r4, hc5, h⟩ := bd_ex h
    refine sl_S K (mX11_isMinute l G F x2 hc5) tw_5_91 tw_1_12 tw_5_90 tw_5_89 cdX11_isMinute ⟨Nat.le_of_ble_eq_true rfl, Nat.le_of_ble_eq_true rfl⟩ hP hD hS [] rfl rfl rfl rfl hl.1 (Nat.le_of_ble_eq_true rfl) ⟨Nat.zero_le _, Nat.zero_le _⟩ dX11_run_11 (fun H locs hP hD hS => ?_)
    have hP : va_P G.1 vwCl (List.flatten [wX G xx σxx]) H := hP
    have hD : va_D A (List.flatten [wX G xx σxx]) := hD
    refine lv_if_eq (tgt := 30) hx hb dX11_run_14 (by decide) (fun c6 => ?_) (fun c6 => ?_)
    · have h := if_t c6 h
      refine lv_bipush (v := -2) hx hb dX11_run_30 lb_m2 ?_
      cases h
      exact rt_i K hP hD hS dX11_run_32
    · have h := if_f c6 h
      refine lv_iload hx hb dX11_run_17 (lv_at hl 4 rfl) ?_
      refine lv_i2l (v := x4.toInt64) hx hb dX11_run_19 rfl ?_
      refine lv_lconst (v := 0) hx hb dX11_run_20 ll_0 ?_
      refine lv_ldc2 (v := 2) hx hb hown (hts _ tw_5_123) dX11_run_21 ?_
      obtain ⟨r7, hc8, h⟩ := bd_ex h
      refine sl_S K (mX11_in l G F x4.toInt64 (0 : Int64) (2 : Int64) hc8) tw_4_217 tw_1_12 tw_4_216 tw_4_215 cdX11_in ⟨Nat.le_of_ble_eq_true rfl, Nat.le_of_ble_eq_true rfl⟩ hP hD hS [] rfl rfl rfl rfl hl.1 (Nat.le_of_ble_eq_true rfl) ⟨Nat.zero_le _, Nat.zero_le _⟩ dX11_run_24 (fun H locs hP hD hS => ?_)
      have hP : va_P G.1 vwCl (List.flatten [wX G xx σxx]) H := hP
      have hD : va_D A (List.flatten [wX G xx σxx]) := hD
      refine lv_if_ne (tgt := 33) hx hb dX11_run_27 (by decide) (fun c9 => ?_) (fun c9 => ?_)
      · have h := if_f c9 h
        refine lv_iload_n hx hb dX11_run_33 rfl (lv_at hl 3 rfl) ?_
        refine lv_i2l (v := x3.toInt64) hx hb dX11_run_34 rfl ?_
        refine lv_lconst (v := 0) hx hb dX11_run_35 ll_0 ?_
        refine lv_aload_n hx hb dX11_run_36 rfl (lv_at hl 0 rfl) ?_
        refine lv_iload_n hx hb dX11_run_37 rfl (lv_at hl 1 rfl) ?_
        refine lv_iload_n hx hb dX11_run_38 rfl (lv_at hl 2 rfl) ?_
        obtain ⟨r10, hc11, h⟩ := bd_ex h
        refine sl_V (q0 := 0) (ci := 11) (C := RX11) K (mX11_layRuns l G F xx σxx x1 x2 hc11) tw_5_118 tw_1_12 tw_5_117 tw_0_14 tw_5_115 cdX11_layRuns ⟨Nat.le_of_ble_eq_true rfl, Nat.le_of_ble_eq_true rfl⟩ hP hD hS [0] rfl rfl rfl rfl rfl rfl rfl hl.1 (Nat.le_of_ble_eq_true rfl) ⟨Nat.zero_le _, Nat.zero_le _⟩ dX11_run_39 (fun H locs hP hD hS => ?_)
        have hP : va_P G.1 vwCl (List.flatten [wX G xx r10.2]) H := hP
        have hD : va_D A (List.flatten [wX G xx r10.2]) := hD
        refine lv_iconst (v := 1) hx hb dX11_run_42 li_1 ?_
        refine lv_isub hx hb dX11_run_43 ?_
        refine lv_i2l (v := (r10.1 - (1 : Int32)).toInt64) hx hb dX11_run_44 rfl ?_
        obtain ⟨r12, hc13, h⟩ := bd_ex h
        refine sl_S K (mX11_in l G F x3.toInt64 (0 : Int64) ((r10.1 - (1 : Int32)).toInt64) hc13) tw_4_217 tw_1_12 tw_4_216 tw_4_215 cdX11_in ⟨Nat.le_of_ble_eq_true rfl, Nat.le_of_ble_eq_true rfl⟩ hP hD hS [] rfl rfl rfl rfl hl.1 (Nat.le_of_ble_eq_true rfl) ⟨Nat.zero_le _, Nat.zero_le _⟩ dX11_run_45 (fun H locs hP hD hS => ?_)
        have hP : va_P G.1 vwCl (List.flatten [wX G xx r10.2]) H := hP
        have hD : va_D A (List.flatten [wX G xx r10.2]) := hD
        refine lv_if_eq (tgt := 65) hx hb dX11_run_48 (by decide) (fun c14 => ?_) (fun c14 => ?_)
        · have h := if_t c14 h
          refine lv_bipush (v := -9) hx hb dX11_run_65 lb_m9 ?_
          cases h
          exact rt_i K hP hD hS dX11_run_67
        · have h := if_f c14 h
          refine lv_aload_n hx hb dX11_run_51 rfl (lv_at hl 0 rfl) ?_
          refine va_get (D := G.1) (cl := vwCl) (tys := tysG G) (ci := 11) (v := .ref (xx 23)) (C := RX11) (T := TX11) (N := 37) hx hb hts iX11 hown hG.1 hP 0 rfl rfl 22 (Nat.le_of_ble_eq_true rfl) (hts _ tw_4_119) (fun _ h9 => h9) rfl dX11_run_52 ?_
          refine lv_iconst (v := 3) hx hb dX11_run_55 li_3 ?_
          refine lv_iload_n hx hb dX11_run_56 rfl (lv_at hl 3 rfl) ?_
          refine lv_imul hx hb dX11_run_57 ?_
          refine lv_iload hx hb dX11_run_58 (lv_at hl 4 rfl) ?_
          refine lv_iadd hx hb dX11_run_60 ?_
          obtain ⟨ck15, h⟩ := ck h
          refine va_iald hx hb hG.1 hP 11 0 rfl rfl ck15 dX11_run_61 ?_
          refine lv_goto (tgt := 67) hx hb dX11_run_62 (by decide) ?_
          cases h
          exact rt_i K hP hD hS dX11_run_67
      · have h := if_t c9 h
        refine lv_bipush (v := -2) hx hb dX11_run_30 lb_m2 ?_
        cases h
        exact rt_i K hP hD hS dX11_run_32
  · have h := if_t c3 h
    refine lv_iconst (v := -1) hx hb dX11_run_8 li_m1 ?_
    cases h
    exact rt_i K hP hD hS dX11_run_9
def gbX11_alone_75 (F : Nat) (σxx : ST) (v1 : Int32) (v2 : Int32) (v3 : Int32) (v4 : Int32) (v5 : Int32) (rc : Int32 → Int32 → Option (Int32 × Int32)) (v6 : Int32) (v7 : Int32) : Option (Int32 × Int32) :=
  if (σxx.1 11) ≤ v7 then
    some (v6, v7)
  else
    if v7 = v3 then
      rc (v6 ||| (0 : Int32)) (v7 + 1)
    else
      if (((3 : Int32) * v7) + (2 : Int32)) < 0 ∨ 24 ≤ (((3 : Int32) * v7) + (2 : Int32)).toNatClampNeg then none else
      if (σxx.2.1 7 (((3 : Int32) * v7) + (2 : Int32)).toNatClampNeg) = v4 then
        if ((3 : Int32) * v7) < 0 ∨ 24 ≤ ((3 : Int32) * v7).toNatClampNeg then none else
        (fX11_highOf F (σxx.2.1 7 ((3 : Int32) * v7).toNatClampNeg)).bind fun r19 =>
        if (((3 : Int32) * v7) + (1 : Int32)) < 0 ∨ 24 ≤ (((3 : Int32) * v7) + (1 : Int32)).toNatClampNeg then none else
        (fX11_reach F r19 (σxx.2.1 7 (((3 : Int32) * v7) + (1 : Int32)).toNatClampNeg) v1).bind fun r22 =>
        rc (v6 ||| r22) (v7 + 1)
      else
        rc (v6 ||| (0 : Int32)) (v7 + 1)
def gX11_alone_75 (F : Nat) (σxx : ST) (v1 : Int32) (v2 : Int32) (v3 : Int32) (v4 : Int32) (v5 : Int32) : Nat → Int32 → Int32 → Option (Int32 × Int32)
  | 0, _, _ => none
  | n + 1, v6, v7 => gbX11_alone_75 F σxx v1 v2 v3 v4 v5 (gX11_alone_75 F σxx v1 v2 v3 v4 v5 n) v6 v7
set_option maxHeartbeats 4000000 in
set_option maxRecDepth 100000 in
theorem kX11_alone_75 {p : Program} {l : Launch} {e : Env} {s : State} {m : MethodId} {args : Array Value} {below : List Frame} {meth : Method} {c : Code} {A : Nat → Prop} {Q : State → Prop} {G : GP} (K : Cx p s m meth c G cX11_alone RX11 8 (some .int) args A) (F : Nat) (xx : Nat → Nat) (σxx : ST) (v1 : Int32) (v2 : Int32) (v3 : Int32) (v4 : Int32) (v5 : Int32) {z : Int32 × Int32} (kk : ∀ (H : Heap) (locs : List Loc) (ls : Array Slot), va_P G.1 vwCl (List.flatten [wX G xx σxx]) H → va_D A (List.flatten [wX G xx σxx]) → va_S A s.heap H locs → lv_has ls 8 [(0, .ref (xx 0)), (1, .int v1), (2, .int v2), (3, .int v3), (4, .int v4), (5, .int v5), (6, .int z.1), (7, .int z.2)] → W p l e (RM 4) s m args below meth c H locs 0 0 Q (F0 m 148 ls [])) :
    ∀ (n : Nat) (v6 : Int32) (v7 : Int32) (H : Heap) (locs : List Loc) (ls : Array Slot), va_P G.1 vwCl (List.flatten [wX G xx σxx]) H → va_D A (List.flatten [wX G xx σxx]) → va_S A s.heap H locs → lv_has ls 8 [(0, .ref (xx 0)), (1, .int v1), (2, .int v2), (3, .int v3), (4, .int v4), (5, .int v5), (6, .int v6), (7, .int v7)] → gX11_alone_75 F σxx v1 v2 v3 v4 v5 n v6 v7 = some z → W p l e (RM 4) s m args below meth c H locs 0 0 Q (F0 m 75 ls []) := by
  obtain ⟨hx, hb, hr, hml, hts, hown, hlocks, hA, hG⟩ := id K
  intro n
  induction n with
  | zero =>
    intro v6 v7 H locs ls hP hD hS hl h
    have h : none = some z := h
    cases h
  | succ n ih =>
    intro v6 v7 H locs ls hP hD hS hl h
    have h : gbX11_alone_75 F σxx v1 v2 v3 v4 v5 (gX11_alone_75 F σxx v1 v2 v3 v4 v5 n) v6 v7 = some z := h
    unfold gbX11_alone_75 at h
    refine lv_iload hx hb dX11_alone_75 (lv_at hl 7 rfl) ?_
    refine lv_aload_n hx hb dX11_alone_77 rfl (lv_at hl 0 rfl) ?_
    refine va_get (D := G.1) (cl := vwCl) (tys := tysG G) (ci := 11) (v := .int (σxx.1 11)) (C := RX11) (T := TX11) (N := 37) hx hb hts iX11 hown hG.1 hP 0 rfl rfl 11 (Nat.le_of_ble_eq_true rfl) (hts _ tw_4_108) (fun _ h9 => h9) rfl dX11_alone_78 ?_
    refine lv_icmp_ge (tgt := 148) hx hb dX11_alone_81 (by decide) (fun c14 => ?_) (fun c14 => ?_)
    · have h := if_t c14 h
      cases h
      exact kk _ _ _ hP hD hS (lv_sub hl [0, 1, 2, 3, 4, 5, 6, 7] rfl)
    · have h := if_f c14 h
      refine lv_iload hx hb dX11_alone_84 (lv_at hl 6 rfl) ?_
      refine lv_iload hx hb dX11_alone_86 (lv_at hl 7 rfl) ?_
      refine lv_iload_n hx hb dX11_alone_88 rfl (lv_at hl 3 rfl) ?_
      refine lv_icmp_eq (tgt := 138) hx hb dX11_alone_89 (by decide) (fun c15 => ?_) (fun c15 => ?_)
      · have h := if_t c15 h
        refine lv_iconst (v := 0) hx hb dX11_alone_138 li_0 ?_
        refine lv_ior hx hb dX11_alone_139 ?_
        refine lv_istore (lv' := [(6, .int (v6 ||| (0 : Int32))), (0, .ref (xx 0)), (1, .int v1), (2, .int v2), (3, .int v3), (4, .int v4), (5, .int v5), (7, .int v7)]) hx hb dX11_alone_140 hl (Nat.le_of_ble_eq_true rfl) rfl (fun ls hl => ?_)
        refine lv_iinc (v := v7 + 1) (lv' := [(7, .int (v7 + 1)), (6, .int (v6 ||| (0 : Int32))), (0, .ref (xx 0)), (1, .int v1), (2, .int v2), (3, .int v3), (4, .int v4), (5, .int v5)]) hx hb dX11_alone_142 hl (k := 7) rfl (by rw [li_1]) (Nat.le_of_ble_eq_true rfl) rfl (fun ls hl => ?_)
        refine lv_goto (tgt := 75) hx hb dX11_alone_145 (by decide) ?_
        exact ih (v6 ||| (0 : Int32)) (v7 + 1) _ _ _ hP hD hS (lv_sub hl [2, 3, 4, 5, 6, 7, 1, 0] rfl) h
      · have h := if_f c15 h
        refine lv_aload_n hx hb dX11_alone_92 rfl (lv_at hl 0 rfl) ?_
        refine va_get (D := G.1) (cl := vwCl) (tys := tysG G) (ci := 11) (v := .ref (xx 8)) (C := RX11) (T := TX11) (N := 37) hx hb hts iX11 hown hG.1 hP 0 rfl rfl 7 (Nat.le_of_ble_eq_true rfl) (hts _ tw_4_104) (fun _ h9 => h9) rfl dX11_alone_93 ?_
        refine lv_iconst (v := 3) hx hb dX11_alone_96 li_3 ?_
        refine lv_iload hx hb dX11_alone_97 (lv_at hl 7 rfl) ?_
        refine lv_imul hx hb dX11_alone_99 ?_
        refine lv_iconst (v := 2) hx hb dX11_alone_100 li_2 ?_
        refine lv_iadd hx hb dX11_alone_101 ?_
        obtain ⟨ck16, h⟩ := ck h
        refine va_iald hx hb hG.1 hP 5 0 rfl rfl ck16 dX11_alone_102 ?_
        refine lv_iload hx hb dX11_alone_103 (lv_at hl 4 rfl) ?_
        refine lv_icmp_ne (tgt := 138) hx hb dX11_alone_105 (by decide) (fun c17 => ?_) (fun c17 => ?_)
        · have h := if_f c17 h
          refine lv_iconst (v := 0) hx hb dX11_alone_138 li_0 ?_
          refine lv_ior hx hb dX11_alone_139 ?_
          refine lv_istore (lv' := [(6, .int (v6 ||| (0 : Int32))), (0, .ref (xx 0)), (1, .int v1), (2, .int v2), (3, .int v3), (4, .int v4), (5, .int v5), (7, .int v7)]) hx hb dX11_alone_140 hl (Nat.le_of_ble_eq_true rfl) rfl (fun ls hl => ?_)
          refine lv_iinc (v := v7 + 1) (lv' := [(7, .int (v7 + 1)), (6, .int (v6 ||| (0 : Int32))), (0, .ref (xx 0)), (1, .int v1), (2, .int v2), (3, .int v3), (4, .int v4), (5, .int v5)]) hx hb dX11_alone_142 hl (k := 7) rfl (by rw [li_1]) (Nat.le_of_ble_eq_true rfl) rfl (fun ls hl => ?_)
          refine lv_goto (tgt := 75) hx hb dX11_alone_145 (by decide) ?_
          exact ih (v6 ||| (0 : Int32)) (v7 + 1) _ _ _ hP hD hS (lv_sub hl [2, 3, 4, 5, 6, 7, 1, 0] rfl) h
        · have h := if_t c17 h
          refine lv_aload_n hx hb dX11_alone_108 rfl (lv_at hl 0 rfl) ?_
          refine va_get (D := G.1) (cl := vwCl) (tys := tysG G) (ci := 11) (v := .ref (xx 8)) (C := RX11) (T := TX11) (N := 37) hx hb hts iX11 hown hG.1 hP 0 rfl rfl 7 (Nat.le_of_ble_eq_true rfl) (hts _ tw_4_104) (fun _ h9 => h9) rfl dX11_alone_109 ?_
          refine lv_iconst (v := 3) hx hb dX11_alone_112 li_3 ?_
          refine lv_iload hx hb dX11_alone_113 (lv_at hl 7 rfl) ?_
          refine lv_imul hx hb dX11_alone_115 ?_
          obtain ⟨ck18, h⟩ := ck h
          refine va_iald hx hb hG.1 hP 5 0 rfl rfl ck18 dX11_alone_116 ?_
          obtain ⟨r19, hc20, h⟩ := bd_ex h
          refine sl_S K (mX11_highOf l G F (σxx.2.1 7 ((3 : Int32) * v7).toNatClampNeg) hc20) tw_5_40 tw_1_12 tw_5_39 tw_5_38 cdX11_highOf ⟨Nat.le_of_ble_eq_true rfl, Nat.le_of_ble_eq_true rfl⟩ hP hD hS [] rfl rfl rfl rfl hl.1 (Nat.le_of_ble_eq_true rfl) ⟨Nat.zero_le _, Nat.zero_le _⟩ dX11_alone_117 (fun H locs hP hD hS => ?_)
          have hP : va_P G.1 vwCl (List.flatten [wX G xx σxx]) H := hP
          have hD : va_D A (List.flatten [wX G xx σxx]) := hD
          refine lv_aload_n hx hb dX11_alone_120 rfl (lv_at hl 0 rfl) ?_
          refine va_get (D := G.1) (cl := vwCl) (tys := tysG G) (ci := 11) (v := .ref (xx 8)) (C := RX11) (T := TX11) (N := 37) hx hb hts iX11 hown hG.1 hP 0 rfl rfl 7 (Nat.le_of_ble_eq_true rfl) (hts _ tw_4_104) (fun _ h9 => h9) rfl dX11_alone_121 ?_
          refine lv_iconst (v := 3) hx hb dX11_alone_124 li_3 ?_
          refine lv_iload hx hb dX11_alone_125 (lv_at hl 7 rfl) ?_
          refine lv_imul hx hb dX11_alone_127 ?_
          refine lv_iconst (v := 1) hx hb dX11_alone_128 li_1 ?_
          refine lv_iadd hx hb dX11_alone_129 ?_
          obtain ⟨ck21, h⟩ := ck h
          refine va_iald hx hb hG.1 hP 5 0 rfl rfl ck21 dX11_alone_130 ?_
          refine lv_iload_n hx hb dX11_alone_131 rfl (lv_at hl 1 rfl) ?_
          obtain ⟨r22, hc23, h⟩ := bd_ex h
          refine sl_S K (mX11_reach l G F r19 (σxx.2.1 7 (((3 : Int32) * v7) + (1 : Int32)).toNatClampNeg) v1 hc23) tw_5_106 tw_1_12 tw_5_105 tw_5_104 cdX11_reach ⟨Nat.le_of_ble_eq_true rfl, Nat.le_of_ble_eq_true rfl⟩ hP hD hS [] rfl rfl rfl rfl hl.1 (Nat.le_of_ble_eq_true rfl) ⟨Nat.zero_le _, Nat.zero_le _⟩ dX11_alone_132 (fun H locs hP hD hS => ?_)
          have hP : va_P G.1 vwCl (List.flatten [wX G xx σxx]) H := hP
          have hD : va_D A (List.flatten [wX G xx σxx]) := hD
          refine lv_goto (tgt := 139) hx hb dX11_alone_135 (by decide) ?_
          refine lv_ior hx hb dX11_alone_139 ?_
          refine lv_istore (lv' := [(6, .int (v6 ||| r22)), (0, .ref (xx 0)), (1, .int v1), (2, .int v2), (3, .int v3), (4, .int v4), (5, .int v5), (7, .int v7)]) hx hb dX11_alone_140 hl (Nat.le_of_ble_eq_true rfl) rfl (fun ls hl => ?_)
          refine lv_iinc (v := v7 + 1) (lv' := [(7, .int (v7 + 1)), (6, .int (v6 ||| r22)), (0, .ref (xx 0)), (1, .int v1), (2, .int v2), (3, .int v3), (4, .int v4), (5, .int v5)]) hx hb dX11_alone_142 hl (k := 7) rfl (by rw [li_1]) (Nat.le_of_ble_eq_true rfl) rfl (fun ls hl => ?_)
          refine lv_goto (tgt := 75) hx hb dX11_alone_145 (by decide) ?_
          exact ih (v6 ||| r22) (v7 + 1) _ _ _ hP hD hS (lv_sub hl [2, 3, 4, 5, 6, 7, 1, 0] rfl) h
def gbX11_alone_14 (F : Nat) (σxx : ST) (v1 : Int32) (rc : Int32 → Int32 → Option (Int32 × Int32)) (v2 : Int32) (v3 : Int32) : Option (Int32 × Int32) :=
  if (σxx.1 11) ≤ v3 then
    some (v2, v3)
  else
    if (((3 : Int32) * v3) + (2 : Int32)) < 0 ∨ 24 ≤ (((3 : Int32) * v3) + (2 : Int32)).toNatClampNeg then none else
    if ((3 : Int32) * v3) < 0 ∨ 24 ≤ ((3 : Int32) * v3).toNatClampNeg then none else
    (fX11_highOf F (σxx.2.1 7 ((3 : Int32) * v3).toNatClampNeg)).bind fun r7 =>
    if (((3 : Int32) * v3) + (1 : Int32)) < 0 ∨ 24 ≤ (((3 : Int32) * v3) + (1 : Int32)).toNatClampNeg then none else
    (fX11_reach F r7 (σxx.2.1 7 (((3 : Int32) * v3) + (1 : Int32)).toNatClampNeg) v1).bind fun r10 =>
    (fX11_lit F σxx v1 (σxx.2.1 7 (((3 : Int32) * v3) + (2 : Int32)).toNatClampNeg)).bind fun r12 =>
    (gX11_alone_75 F σxx v1 v2 v3 (σxx.2.1 7 (((3 : Int32) * v3) + (2 : Int32)).toNatClampNeg) (r10 &&& r12) F (0 : Int32) (0 : Int32)).bind fun z24 =>
      if (r10 &&& r12) = 0 then
        rc (v2 + (0 : Int32)) (v3 + 1)
      else
        if ((r10 &&& r12) &&& z24.1) = 0 then
          rc (v2 + (1 : Int32)) (v3 + 1)
        else
          rc (v2 + (0 : Int32)) (v3 + 1)
def gX11_alone_14 (F : Nat) (σxx : ST) (v1 : Int32) : Nat → Int32 → Int32 → Option (Int32 × Int32)
  | 0, _, _ => none
  | n + 1, v2, v3 => gbX11_alone_14 F σxx v1 (gX11_alone_14 F σxx v1 n) v2 v3
set_option maxHeartbeats 4000000 in
set_option maxRecDepth 100000 in
theorem kX11_alone_14 {p : Program} {l : Launch} {e : Env} {s : State} {m : MethodId} {args : Array Value} {below : List Frame} {meth : Method} {c : Code} {A : Nat → Prop} {Q : State → Prop} {G : GP} (K : Cx p s m meth c G cX11_alone RX11 8 (some .int) args A) (F : Nat) (xx : Nat → Nat) (σxx : ST) (v1 : Int32) {z : Int32 × Int32} (kk : ∀ (H : Heap) (locs : List Loc) (ls : Array Slot), va_P G.1 vwCl (List.flatten [wX G xx σxx]) H → va_D A (List.flatten [wX G xx σxx]) → va_S A s.heap H locs → lv_has ls 8 [(0, .ref (xx 0)), (1, .int v1), (2, .int z.1), (3, .int z.2)] → W p l e (RM 4) s m args below meth c H locs 0 0 Q (F0 m 175 ls [])) :
    ∀ (n : Nat) (v2 : Int32) (v3 : Int32) (H : Heap) (locs : List Loc) (ls : Array Slot), va_P G.1 vwCl (List.flatten [wX G xx σxx]) H → va_D A (List.flatten [wX G xx σxx]) → va_S A s.heap H locs → lv_has ls 8 [(0, .ref (xx 0)), (1, .int v1), (2, .int v2), (3, .int v3)] → gX11_alone_14 F σxx v1 n v2 v3 = some z → W p l e (RM 4) s m args below meth c H locs 0 0 Q (F0 m 14 ls []) := by
  obtain ⟨hx, hb, hr, hml, hts, hown, hlocks, hA, hG⟩ := id K
  intro n
  induction n with
  | zero =>
    intro v2 v3 H locs ls hP hD hS hl h
    have h : none = some z := h
    cases h
  | succ n ih =>
    intro v2 v3 H locs ls hP hD hS hl h
    have h : gbX11_alone_14 F σxx v1 (gX11_alone_14 F σxx v1 n) v2 v3 = some z := h
    unfold gbX11_alone_14 at h
    refine lv_iload_n hx hb dX11_alone_14 rfl (lv_at hl 3 rfl) ?_
    refine lv_aload_n hx hb dX11_alone_15 rfl (lv_at hl 0 rfl) ?_
    refine va_get (D := G.1) (cl := vwCl) (tys := tysG G) (ci := 11) (v := .int (σxx.1 11)) (C := RX11) (T := TX11) (N := 37) hx hb hts iX11 hown hG.1 hP 0 rfl rfl 11 (Nat.le_of_ble_eq_true rfl) (hts _ tw_4_108) (fun _ h9 => h9) rfl dX11_alone_16 ?_
    refine lv_icmp_ge (tgt := 175) hx hb dX11_alone_19 (by decide) (fun c4 => ?_) (fun c4 => ?_)
    · have h := if_t c4 h
      cases h
      exact kk _ _ _ hP hD hS (lv_sub hl [0, 1, 2, 3] rfl)
    · have h := if_f c4 h
      refine lv_aload_n hx hb dX11_alone_22 rfl (lv_at hl 0 rfl) ?_
      refine va_get (D := G.1) (cl := vwCl) (tys := tysG G) (ci := 11) (v := .ref (xx 8)) (C := RX11) (T := TX11) (N := 37) hx hb hts iX11 hown hG.1 hP 0 rfl rfl 7 (Nat.le_of_ble_eq_true rfl) (hts _ tw_4_104) (fun _ h9 => h9) rfl dX11_alone_23 ?_
      refine lv_iconst (v := 3) hx hb dX11_alone_26 li_3 ?_
      refine lv_iload_n hx hb dX11_alone_27 rfl (lv_at hl 3 rfl) ?_
      refine lv_imul hx hb dX11_alone_28 ?_
      refine lv_iconst (v := 2) hx hb dX11_alone_29 li_2 ?_
      refine lv_iadd hx hb dX11_alone_30 ?_
      obtain ⟨ck5, h⟩ := ck h
      refine va_iald hx hb hG.1 hP 5 0 rfl rfl ck5 dX11_alone_31 ?_
      refine lv_istore (lv' := [(4, .int (σxx.2.1 7 (((3 : Int32) * v3) + (2 : Int32)).toNatClampNeg)), (0, .ref (xx 0)), (1, .int v1), (2, .int v2), (3, .int v3)]) hx hb dX11_alone_32 hl (Nat.le_of_ble_eq_true rfl) rfl (fun ls hl => ?_)
      refine lv_aload_n hx hb dX11_alone_34 rfl (lv_at hl 1 rfl) ?_
      refine va_get (D := G.1) (cl := vwCl) (tys := tysG G) (ci := 11) (v := .ref (xx 8)) (C := RX11) (T := TX11) (N := 37) hx hb hts iX11 hown hG.1 hP 0 rfl rfl 7 (Nat.le_of_ble_eq_true rfl) (hts _ tw_4_104) (fun _ h9 => h9) rfl dX11_alone_35 ?_
      refine lv_iconst (v := 3) hx hb dX11_alone_38 li_3 ?_
      refine lv_iload_n hx hb dX11_alone_39 rfl (lv_at hl 4 rfl) ?_
      refine lv_imul hx hb dX11_alone_40 ?_
      obtain ⟨ck6, h⟩ := ck h
      refine va_iald hx hb hG.1 hP 5 0 rfl rfl ck6 dX11_alone_41 ?_
      obtain ⟨r7, hc8, h⟩ := bd_ex h
      refine sl_S K (mX11_highOf l G F (σxx.2.1 7 ((3 : Int32) * v3).toNatClampNeg) hc8) tw_5_40 tw_1_12 tw_5_39 tw_5_38 cdX11_highOf ⟨Nat.le_of_ble_eq_true rfl, Nat.le_of_ble_eq_true rfl⟩ hP hD hS [] rfl rfl rfl rfl hl.1 (Nat.le_of_ble_eq_true rfl) ⟨Nat.zero_le _, Nat.zero_le _⟩ dX11_alone_42 (fun H locs hP hD hS => ?_)
      have hP : va_P G.1 vwCl (List.flatten [wX G xx σxx]) H := hP
      have hD : va_D A (List.flatten [wX G xx σxx]) := hD
      refine lv_aload_n hx hb dX11_alone_45 rfl (lv_at hl 1 rfl) ?_
      refine va_get (D := G.1) (cl := vwCl) (tys := tysG G) (ci := 11) (v := .ref (xx 8)) (C := RX11) (T := TX11) (N := 37) hx hb hts iX11 hown hG.1 hP 0 rfl rfl 7 (Nat.le_of_ble_eq_true rfl) (hts _ tw_4_104) (fun _ h9 => h9) rfl dX11_alone_46 ?_
      refine lv_iconst (v := 3) hx hb dX11_alone_49 li_3 ?_
      refine lv_iload_n hx hb dX11_alone_50 rfl (lv_at hl 4 rfl) ?_
      refine lv_imul hx hb dX11_alone_51 ?_
      refine lv_iconst (v := 1) hx hb dX11_alone_52 li_1 ?_
      refine lv_iadd hx hb dX11_alone_53 ?_
      obtain ⟨ck9, h⟩ := ck h
      refine va_iald hx hb hG.1 hP 5 0 rfl rfl ck9 dX11_alone_54 ?_
      refine lv_iload_n hx hb dX11_alone_55 rfl (lv_at hl 2 rfl) ?_
      obtain ⟨r10, hc11, h⟩ := bd_ex h
      refine sl_S K (mX11_reach l G F r7 (σxx.2.1 7 (((3 : Int32) * v3) + (1 : Int32)).toNatClampNeg) v1 hc11) tw_5_106 tw_1_12 tw_5_105 tw_5_104 cdX11_reach ⟨Nat.le_of_ble_eq_true rfl, Nat.le_of_ble_eq_true rfl⟩ hP hD hS [] rfl rfl rfl rfl hl.1 (Nat.le_of_ble_eq_true rfl) ⟨Nat.zero_le _, Nat.zero_le _⟩ dX11_alone_56 (fun H locs hP hD hS => ?_)
      have hP : va_P G.1 vwCl (List.flatten [wX G xx σxx]) H := hP
      have hD : va_D A (List.flatten [wX G xx σxx]) := hD
      refine lv_aload_n hx hb dX11_alone_59 rfl (lv_at hl 1 rfl) ?_
      refine lv_iload_n hx hb dX11_alone_60 rfl (lv_at hl 2 rfl) ?_
      refine lv_iload hx hb dX11_alone_61 (lv_at hl 0 rfl) ?_
      obtain ⟨r12, hc13, h⟩ := bd_ex h
      refine sl_V (q0 := 0) (ci := 11) (C := RX11) K (mX11_lit l G F xx σxx v1 (σxx.2.1 7 (((3 : Int32) * v3) + (2 : Int32)).toNatClampNeg) hc13) tw_5_110 tw_1_12 tw_5_109 tw_0_13 tw_5_107 cdX11_lit ⟨Nat.le_of_ble_eq_true rfl, Nat.le_of_ble_eq_true rfl⟩ hP hD hS [0] rfl rfl rfl rfl rfl rfl rfl hl.1 (Nat.le_of_ble_eq_true rfl) ⟨Nat.zero_le _, Nat.zero_le _⟩ dX11_alone_63 (fun H locs hP hD hS => ?_)
      have hP : va_P G.1 vwCl (List.flatten [wX G xx σxx]) H := hP
      have hD : va_D A (List.flatten [wX G xx σxx]) := hD
      refine lv_iand hx hb dX11_alone_66 ?_
      refine lv_istore (lv' := [(5, .int (r10 &&& r12)), (4, .int (σxx.2.1 7 (((3 : Int32) * v3) + (2 : Int32)).toNatClampNeg)), (0, .ref (xx 0)), (1, .int v1), (2, .int v2), (3, .int v3)]) hx hb dX11_alone_67 hl (Nat.le_of_ble_eq_true rfl) rfl (fun ls hl => ?_)
      refine lv_iconst (v := 0) hx hb dX11_alone_69 li_0 ?_
      refine lv_istore (lv' := [(6, .int (0 : Int32)), (5, .int (r10 &&& r12)), (4, .int (σxx.2.1 7 (((3 : Int32) * v3) + (2 : Int32)).toNatClampNeg)), (0, .ref (xx 0)), (1, .int v1), (2, .int v2), (3, .int v3)]) hx hb dX11_alone_70 hl (Nat.le_of_ble_eq_true rfl) rfl (fun ls hl => ?_)
      refine lv_iconst (v := 0) hx hb dX11_alone_72 li_0 ?_
      refine lv_istore (lv' := [(7, .int (0 : Int32)), (6, .int (0 : Int32)), (5, .int (r10 &&& r12)), (4, .int (σxx.2.1 7 (((3 : Int32) * v3) + (2 : Int32)).toNatClampNeg)), (0, .ref (xx 0)), (1, .int v1), (2, .int v2), (3, .int v3)]) hx hb dX11_alone_73 hl (Nat.le_of_ble_eq_true rfl) rfl (fun ls hl => ?_)
      obtain ⟨z24, hz25, h⟩ := bd_ex h
      refine kX11_alone_75 K F xx σxx v1 v2 v3 (σxx.2.1 7 (((3 : Int32) * v3) + (2 : Int32)).toNatClampNeg) (r10 &&& r12) (fun H locs ls hP hD hS hl => ?_) F (0 : Int32) (0 : Int32) _ _ _ hP hD hS (lv_sub hl [4, 5, 6, 7, 3, 2, 1, 0] rfl) hz25
      refine lv_iload_n hx hb dX11_alone_148 rfl (lv_at hl 2 rfl) ?_
      refine lv_iload hx hb dX11_alone_149 (lv_at hl 5 rfl) ?_
      refine lv_if_eq (tgt := 166) hx hb dX11_alone_151 (by decide) (fun c26 => ?_) (fun c26 => ?_)
      · have h := if_t c26 h
        refine lv_iconst (v := 0) hx hb dX11_alone_166 li_0 ?_
        refine lv_iadd hx hb dX11_alone_167 ?_
        refine lv_istore_n (lv' := [(2, .int (v2 + (0 : Int32))), (0, .ref (xx 0)), (1, .int v1), (3, .int v3), (4, .int (σxx.2.1 7 (((3 : Int32) * v3) + (2 : Int32)).toNatClampNeg)), (5, .int (r10 &&& r12)), (6, .int z24.1), (7, .int z24.2)]) hx hb dX11_alone_168 rfl hl (Nat.le_of_ble_eq_true rfl) rfl (fun ls hl => ?_)
        refine lv_iinc (v := v3 + 1) (lv' := [(3, .int (v3 + 1)), (2, .int (v2 + (0 : Int32))), (0, .ref (xx 0)), (1, .int v1), (4, .int (σxx.2.1 7 (((3 : Int32) * v3) + (2 : Int32)).toNatClampNeg)), (5, .int (r10 &&& r12)), (6, .int z24.1), (7, .int z24.2)]) hx hb dX11_alone_169 hl (k := 3) rfl (by rw [li_1]) (Nat.le_of_ble_eq_true rfl) rfl (fun ls hl => ?_)
        refine lv_goto (tgt := 14) hx hb dX11_alone_172 (by decide) ?_
        exact ih (v2 + (0 : Int32)) (v3 + 1) _ _ _ hP hD hS (lv_sub hl [2, 3, 1, 0] rfl) h
      · have h := if_f c26 h
        refine lv_iload hx hb dX11_alone_154 (lv_at hl 5 rfl) ?_
        refine lv_iload hx hb dX11_alone_156 (lv_at hl 6 rfl) ?_
        refine lv_iand hx hb dX11_alone_158 ?_
        refine lv_if_ne (tgt := 166) hx hb dX11_alone_159 (by decide) (fun c27 => ?_) (fun c27 => ?_)
        · have h := if_f c27 h
          refine lv_iconst (v := 0) hx hb dX11_alone_166 li_0 ?_
          refine lv_iadd hx hb dX11_alone_167 ?_
          refine lv_istore_n (lv' := [(2, .int (v2 + (0 : Int32))), (0, .ref (xx 0)), (1, .int v1), (3, .int v3), (4, .int (σxx.2.1 7 (((3 : Int32) * v3) + (2 : Int32)).toNatClampNeg)), (5, .int (r10 &&& r12)), (6, .int z24.1), (7, .int z24.2)]) hx hb dX11_alone_168 rfl hl (Nat.le_of_ble_eq_true rfl) rfl (fun ls hl => ?_)
          refine lv_iinc (v := v3 + 1) (lv' := [(3, .int (v3 + 1)), (2, .int (v2 + (0 : Int32))), (0, .ref (xx 0)), (1, .int v1), (4, .int (σxx.2.1 7 (((3 : Int32) * v3) + (2 : Int32)).toNatClampNeg)), (5, .int (r10 &&& r12)), (6, .int z24.1), (7, .int z24.2)]) hx hb dX11_alone_169 hl (k := 3) rfl (by rw [li_1]) (Nat.le_of_ble_eq_true rfl) rfl (fun ls hl => ?_)
          refine lv_goto (tgt := 14) hx hb dX11_alone_172 (by decide) ?_
          exact ih (v2 + (0 : Int32)) (v3 + 1) _ _ _ hP hD hS (lv_sub hl [2, 3, 1, 0] rfl) h
        · have h := if_t c27 h
          refine lv_iconst (v := 1) hx hb dX11_alone_162 li_1 ?_
          refine lv_goto (tgt := 167) hx hb dX11_alone_163 (by decide) ?_
          refine lv_iadd hx hb dX11_alone_167 ?_
          refine lv_istore_n (lv' := [(2, .int (v2 + (1 : Int32))), (0, .ref (xx 0)), (1, .int v1), (3, .int v3), (4, .int (σxx.2.1 7 (((3 : Int32) * v3) + (2 : Int32)).toNatClampNeg)), (5, .int (r10 &&& r12)), (6, .int z24.1), (7, .int z24.2)]) hx hb dX11_alone_168 rfl hl (Nat.le_of_ble_eq_true rfl) rfl (fun ls hl => ?_)
          refine lv_iinc (v := v3 + 1) (lv' := [(3, .int (v3 + 1)), (2, .int (v2 + (1 : Int32))), (0, .ref (xx 0)), (1, .int v1), (4, .int (σxx.2.1 7 (((3 : Int32) * v3) + (2 : Int32)).toNatClampNeg)), (5, .int (r10 &&& r12)), (6, .int z24.1), (7, .int z24.2)]) hx hb dX11_alone_169 hl (k := 3) rfl (by rw [li_1]) (Nat.le_of_ble_eq_true rfl) rfl (fun ls hl => ?_)
          refine lv_goto (tgt := 14) hx hb dX11_alone_172 (by decide) ?_
          exact ih (v2 + (1 : Int32)) (v3 + 1) _ _ _ hP hD hS (lv_sub hl [2, 3, 1, 0] rfl) h
def fX11_alone (F : Nat) (σxx : ST) (x1 : Int32) : Option (Int32) :=
  (fX11_isMinute F x1).bind fun r1 =>
  if r1 = 0 then
    some (-2 : Int32)
  else
    (gX11_alone_14 F σxx x1 F (0 : Int32) (0 : Int32)).bind fun z28 =>
      some z28.1
theorem cdX11_alone : CallD yX11_alone 1 := by decide +kernel
set_option maxHeartbeats 4000000 in
set_option maxRecDepth 100000 in
theorem mX11_alone (l : Launch) (G : GP) (F : Nat) (xx : Nat → Nat) (σxx : ST) (x1 : Int32) {r : Int32} (h : fX11_alone F σxx x1 = some r) : CC l G yX11_alone cX11_alone 8 (some .int) 4 [.ref (xx 0), .int x1] (List.flatten [wX G xx σxx]) (List.flatten [wX G xx σxx]) (some (.int r)) := by
  refine CC.of (by decide) (Nat.le_of_ble_eq_true rfl) ?_
  intro p e s m below meth c A K hP hD hS ls hl
  obtain ⟨hx, hb, hr, hml, hts, hown, hlocks, hA, hG⟩ := id K
  have hl : lv_has ls 8 [(0, .ref (xx 0)), (1, .int x1)] := hl
  unfold fX11_alone at h
  refine lv_iload_n hx hb dX11_alone_0 rfl (lv_at hl 1 rfl) ?_
  obtain ⟨r1, hc2, h⟩ := bd_ex h
  refine sl_S K (mX11_isMinute l G F x1 hc2) tw_5_91 tw_1_12 tw_5_90 tw_5_89 cdX11_isMinute ⟨Nat.le_of_ble_eq_true rfl, Nat.le_of_ble_eq_true rfl⟩ hP hD hS [] rfl rfl rfl rfl hl.1 (Nat.le_of_ble_eq_true rfl) ⟨Nat.zero_le _, Nat.zero_le _⟩ dX11_alone_1 (fun H locs hP hD hS => ?_)
  have hP : va_P G.1 vwCl (List.flatten [wX G xx σxx]) H := hP
  have hD : va_D A (List.flatten [wX G xx σxx]) := hD
  refine lv_if_ne (tgt := 10) hx hb dX11_alone_4 (by decide) (fun c3 => ?_) (fun c3 => ?_)
  · have h := if_f c3 h
    refine lv_iconst (v := 0) hx hb dX11_alone_10 li_0 ?_
    refine lv_istore_n (lv' := [(2, .int (0 : Int32)), (0, .ref (xx 0)), (1, .int x1)]) hx hb dX11_alone_11 rfl hl (Nat.le_of_ble_eq_true rfl) rfl (fun ls hl => ?_)
    refine lv_iconst (v := 0) hx hb dX11_alone_12 li_0 ?_
    refine lv_istore_n (lv' := [(3, .int (0 : Int32)), (2, .int (0 : Int32)), (0, .ref (xx 0)), (1, .int x1)]) hx hb dX11_alone_13 rfl hl (Nat.le_of_ble_eq_true rfl) rfl (fun ls hl => ?_)
    obtain ⟨z28, hz29, h⟩ := bd_ex h
    refine kX11_alone_14 K F xx σxx x1 (fun H locs ls hP hD hS hl => ?_) F (0 : Int32) (0 : Int32) _ _ _ hP hD hS (lv_sub hl [2, 3, 1, 0] rfl) hz29
    refine lv_iload_n hx hb dX11_alone_175 rfl (lv_at hl 2 rfl) ?_
    cases h
    exact rt_i K hP hD hS dX11_alone_176
  · have h := if_t c3 h
    refine lv_bipush (v := -2) hx hb dX11_alone_7 lb_m2 ?_
    cases h
    exact rt_i K hP hD hS dX11_alone_9
def gbX11_countedOf_21 (F : Nat) (σxx : ST) (v1 : Int32) (v2 : Int32) (v3 : Int32) (v4 : Int32) (rc : Int32 → Int32 → Option (Int32 × Int32)) (v5 : Int32) (v6 : Int32) : Option (Int32 × Int32) :=
  if v3 ≤ v6 then
    some (v5, v6)
  else
    if (((3 : Int32) * v6) + (2 : Int32)) < 0 ∨ 90 ≤ (((3 : Int32) * v6) + (2 : Int32)).toNatClampNeg then none else
    if v4 < (σxx.2.1 22 (((3 : Int32) * v6) + (2 : Int32)).toNatClampNeg) then
      if v4 = 0 then none else
      if ((2 : Int32) * ((σxx.2.1 22 (((3 : Int32) * v6) + (2 : Int32)).toNatClampNeg) - (σxx.2.1 22 (((3 : Int32) * v6) + (2 : Int32)).toNatClampNeg) / v4 * v4)) ≤ v4 then
        nm (v5 + (((σxx.2.1 22 (((3 : Int32) * v6) + (2 : Int32)).toNatClampNeg) / v4) + (0 : Int32))) fun (y10 : Int32) =>
        rc y10 (v6 + 1)
      else
        nm (v5 + (((σxx.2.1 22 (((3 : Int32) * v6) + (2 : Int32)).toNatClampNeg) / v4) + (1 : Int32))) fun (y12 : Int32) =>
        rc y12 (v6 + 1)
    else
      rc (v5 + (1 : Int32)) (v6 + 1)
def gX11_countedOf_21 (F : Nat) (σxx : ST) (v1 : Int32) (v2 : Int32) (v3 : Int32) (v4 : Int32) : Nat → Int32 → Int32 → Option (Int32 × Int32)
  | 0, _, _ => none
  | n + 1, v5, v6 => gbX11_countedOf_21 F σxx v1 v2 v3 v4 (gX11_countedOf_21 F σxx v1 v2 v3 v4 n) v5 v6
set_option maxHeartbeats 4000000 in
set_option maxRecDepth 100000 in
theorem kX11_countedOf_21 {p : Program} {l : Launch} {e : Env} {s : State} {m : MethodId} {args : Array Value} {below : List Frame} {meth : Method} {c : Code} {A : Nat → Prop} {Q : State → Prop} {G : GP} (K : Cx p s m meth c G cX11_countedOf RX11 8 (some .int) args A) (F : Nat) (xx : Nat → Nat) (σxx : ST) (v1 : Int32) (v2 : Int32) (v3 : Int32) (v4 : Int32) {z : Int32 × Int32} (kk : ∀ (H : Heap) (locs : List Loc) (ls : Array Slot), va_P G.1 vwCl (List.flatten [wX G xx σxx]) H → va_D A (List.flatten [wX G xx σxx]) → va_S A s.heap H locs → lv_has ls 8 [(0, .ref (xx 0)), (1, .int v1), (2, .int v2), (3, .int v3), (4, .int v4), (5, .int z.1), (6, .int z.2)] → W p l e (RM 6) s m args below meth c H locs 0 0 Q (F0 m 85 ls [])) :
    ∀ (n : Nat) (v5 : Int32) (v6 : Int32) (H : Heap) (locs : List Loc) (ls : Array Slot), va_P G.1 vwCl (List.flatten [wX G xx σxx]) H → va_D A (List.flatten [wX G xx σxx]) → va_S A s.heap H locs → lv_has ls 8 [(0, .ref (xx 0)), (1, .int v1), (2, .int v2), (3, .int v3), (4, .int v4), (5, .int v5), (6, .int v6)] → gX11_countedOf_21 F σxx v1 v2 v3 v4 n v5 v6 = some z → W p l e (RM 6) s m args below meth c H locs 0 0 Q (F0 m 21 ls []) := by
  obtain ⟨hx, hb, hr, hml, hts, hown, hlocks, hA, hG⟩ := id K
  intro n
  induction n with
  | zero =>
    intro v5 v6 H locs ls hP hD hS hl h
    have h : none = some z := h
    cases h
  | succ n ih =>
    intro v5 v6 H locs ls hP hD hS hl h
    have h : gbX11_countedOf_21 F σxx v1 v2 v3 v4 (gX11_countedOf_21 F σxx v1 v2 v3 v4 n) v5 v6 = some z := h
    unfold gbX11_countedOf_21 at h
    refine lv_iload hx hb dX11_countedOf_21 (lv_at hl 6 rfl) ?_
    refine lv_iload_n hx hb dX11_countedOf_23 rfl (lv_at hl 3 rfl) ?_
    refine lv_icmp_ge (tgt := 85) hx hb dX11_countedOf_24 (by decide) (fun c5 => ?_) (fun c5 => ?_)
    · have h := if_t c5 h
      cases h
      exact kk _ _ _ hP hD hS (lv_sub hl [0, 1, 2, 3, 4, 5, 6] rfl)
    · have h := if_f c5 h
      refine lv_aload_n hx hb dX11_countedOf_27 rfl (lv_at hl 0 rfl) ?_
      refine va_get (D := G.1) (cl := vwCl) (tys := tysG G) (ci := 11) (v := .ref (xx 23)) (C := RX11) (T := TX11) (N := 37) hx hb hts iX11 hown hG.1 hP 0 rfl rfl 22 (Nat.le_of_ble_eq_true rfl) (hts _ tw_4_119) (fun _ h9 => h9) rfl dX11_countedOf_28 ?_
      refine lv_iconst (v := 3) hx hb dX11_countedOf_31 li_3 ?_
      refine lv_iload hx hb dX11_countedOf_32 (lv_at hl 6 rfl) ?_
      refine lv_imul hx hb dX11_countedOf_34 ?_
      refine lv_iconst (v := 2) hx hb dX11_countedOf_35 li_2 ?_
      refine lv_iadd hx hb dX11_countedOf_36 ?_
      obtain ⟨ck6, h⟩ := ck h
      refine va_iald hx hb hG.1 hP 11 0 rfl rfl ck6 dX11_countedOf_37 ?_
      refine lv_istore (lv' := [(7, .int (σxx.2.1 22 (((3 : Int32) * v6) + (2 : Int32)).toNatClampNeg)), (0, .ref (xx 0)), (1, .int v1), (2, .int v2), (3, .int v3), (4, .int v4), (5, .int v5), (6, .int v6)]) hx hb dX11_countedOf_38 hl (Nat.le_of_ble_eq_true rfl) rfl (fun ls hl => ?_)
      refine lv_iload hx hb dX11_countedOf_40 (lv_at hl 6 rfl) ?_
      refine lv_iload hx hb dX11_countedOf_42 (lv_at hl 0 rfl) ?_
      refine lv_iload hx hb dX11_countedOf_44 (lv_at hl 5 rfl) ?_
      refine lv_icmp_gt (tgt := 53) hx hb dX11_countedOf_46 (by decide) (fun c7 => ?_) (fun c7 => ?_)
      · have h := if_t c7 h
        refine lv_iload hx hb dX11_countedOf_53 (lv_at hl 0 rfl) ?_
        refine lv_iload hx hb dX11_countedOf_55 (lv_at hl 5 rfl) ?_
        obtain ⟨ck8, h⟩ := ck h
        refine lv_idiv hx hb dX11_countedOf_57 ck8 ?_
        refine lv_iconst (v := 2) hx hb dX11_countedOf_58 li_2 ?_
        refine lv_iload hx hb dX11_countedOf_59 (lv_at hl 0 rfl) ?_
        refine lv_iload hx hb dX11_countedOf_61 (lv_at hl 5 rfl) ?_
        refine lv_irem hx hb dX11_countedOf_63 ck8 ?_
        refine lv_imul hx hb dX11_countedOf_64 ?_
        refine lv_iload hx hb dX11_countedOf_65 (lv_at hl 5 rfl) ?_
        refine lv_icmp_le (tgt := 74) hx hb dX11_countedOf_67 (by decide) (fun c9 => ?_) (fun c9 => ?_)
        · have h := if_t c9 h
          refine lv_iconst (v := 0) hx hb dX11_countedOf_74 li_0 ?_
          refine lv_iadd hx hb dX11_countedOf_75 ?_
          refine lv_iadd hx hb dX11_countedOf_76 ?_
          obtain ⟨y10, e11, h⟩ := nm_ex h
          refine top_nm e11 ?_
          refine lv_istore (lv' := [(5, .int y10), (7, .int (σxx.2.1 22 (((3 : Int32) * v6) + (2 : Int32)).toNatClampNeg)), (0, .ref (xx 0)), (1, .int v1), (2, .int v2), (3, .int v3), (4, .int v4), (6, .int v6)]) hx hb dX11_countedOf_77 hl (Nat.le_of_ble_eq_true rfl) rfl (fun ls hl => ?_)
          refine lv_iinc (v := v6 + 1) (lv' := [(6, .int (v6 + 1)), (5, .int y10), (7, .int (σxx.2.1 22 (((3 : Int32) * v6) + (2 : Int32)).toNatClampNeg)), (0, .ref (xx 0)), (1, .int v1), (2, .int v2), (3, .int v3), (4, .int v4)]) hx hb dX11_countedOf_79 hl (k := 7) rfl (by rw [li_1]) (Nat.le_of_ble_eq_true rfl) rfl (fun ls hl => ?_)
          refine lv_goto (tgt := 21) hx hb dX11_countedOf_82 (by decide) ?_
          exact ih y10 (v6 + 1) _ _ _ hP hD hS (lv_sub hl [3, 4, 5, 6, 7, 1, 0] rfl) h
        · have h := if_f c9 h
          refine lv_iconst (v := 1) hx hb dX11_countedOf_70 li_1 ?_
          refine lv_goto (tgt := 75) hx hb dX11_countedOf_71 (by decide) ?_
          refine lv_iadd hx hb dX11_countedOf_75 ?_
          refine lv_iadd hx hb dX11_countedOf_76 ?_
          obtain ⟨y12, e13, h⟩ := nm_ex h
          refine top_nm e13 ?_
          refine lv_istore (lv' := [(5, .int y12), (7, .int (σxx.2.1 22 (((3 : Int32) * v6) + (2 : Int32)).toNatClampNeg)), (0, .ref (xx 0)), (1, .int v1), (2, .int v2), (3, .int v3), (4, .int v4), (6, .int v6)]) hx hb dX11_countedOf_77 hl (Nat.le_of_ble_eq_true rfl) rfl (fun ls hl => ?_)
          refine lv_iinc (v := v6 + 1) (lv' := [(6, .int (v6 + 1)), (5, .int y12), (7, .int (σxx.2.1 22 (((3 : Int32) * v6) + (2 : Int32)).toNatClampNeg)), (0, .ref (xx 0)), (1, .int v1), (2, .int v2), (3, .int v3), (4, .int v4)]) hx hb dX11_countedOf_79 hl (k := 7) rfl (by rw [li_1]) (Nat.le_of_ble_eq_true rfl) rfl (fun ls hl => ?_)
          refine lv_goto (tgt := 21) hx hb dX11_countedOf_82 (by decide) ?_
          exact ih y12 (v6 + 1) _ _ _ hP hD hS (lv_sub hl [3, 4, 5, 6, 7, 1, 0] rfl) h
      · have h := if_f c7 h
        refine lv_iconst (v := 1) hx hb dX11_countedOf_49 li_1 ?_
        refine lv_goto (tgt := 76) hx hb dX11_countedOf_50 (by decide) ?_
        refine lv_iadd hx hb dX11_countedOf_76 ?_
        refine lv_istore (lv' := [(5, .int (v5 + (1 : Int32))), (7, .int (σxx.2.1 22 (((3 : Int32) * v6) + (2 : Int32)).toNatClampNeg)), (0, .ref (xx 0)), (1, .int v1), (2, .int v2), (3, .int v3), (4, .int v4), (6, .int v6)]) hx hb dX11_countedOf_77 hl (Nat.le_of_ble_eq_true rfl) rfl (fun ls hl => ?_)
        refine lv_iinc (v := v6 + 1) (lv' := [(6, .int (v6 + 1)), (5, .int (v5 + (1 : Int32))), (7, .int (σxx.2.1 22 (((3 : Int32) * v6) + (2 : Int32)).toNatClampNeg)), (0, .ref (xx 0)), (1, .int v1), (2, .int v2), (3, .int v3), (4, .int v4)]) hx hb dX11_countedOf_79 hl (k := 7) rfl (by rw [li_1]) (Nat.le_of_ble_eq_true rfl) rfl (fun ls hl => ?_)
        refine lv_goto (tgt := 21) hx hb dX11_countedOf_82 (by decide) ?_
        exact ih (v5 + (1 : Int32)) (v6 + 1) _ _ _ hP hD hS (lv_sub hl [3, 4, 5, 6, 7, 1, 0] rfl) h
def fX11_countedOf (F : Nat) (σxx : ST) (x1 : Int32) (x2 : Int32) : Option (Int32 × ST) :=
  (fX11_layRuns F σxx x1 x2).bind fun r1 =>
  (fX11_longAt F (6 : Int32) x2).bind fun r3 =>
  (gX11_countedOf_21 F r1.2 x1 x2 r1.1 r3 F (0 : Int32) (0 : Int32)).bind fun z14 =>
    some (z14.1, r1.2)
theorem cdX11_countedOf : CallD yX11_countedOf 2 := by decide +kernel
set_option maxHeartbeats 4000000 in
set_option maxRecDepth 100000 in
theorem mX11_countedOf (l : Launch) (G : GP) (F : Nat) (xx : Nat → Nat) (σxx : ST) (x1 : Int32) (x2 : Int32) {r : Int32 × ST} (h : fX11_countedOf F σxx x1 x2 = some r) : CC l G yX11_countedOf cX11_countedOf 8 (some .int) 6 [.ref (xx 0), .int x1, .int x2] (List.flatten [wX G xx σxx]) (List.flatten [wX G xx r.2]) (some (.int r.1)) := by
  refine CC.of (by decide) (Nat.le_of_ble_eq_true rfl) ?_
  intro p e s m below meth c A K hP hD hS ls hl
  obtain ⟨hx, hb, hr, hml, hts, hown, hlocks, hA, hG⟩ := id K
  have hl : lv_has ls 8 [(0, .ref (xx 0)), (1, .int x1), (2, .int x2)] := hl
  unfold fX11_countedOf at h
  refine lv_aload_n hx hb dX11_countedOf_0 rfl (lv_at hl 0 rfl) ?_
  refine lv_iload_n hx hb dX11_countedOf_1 rfl (lv_at hl 1 rfl) ?_
  refine lv_iload_n hx hb dX11_countedOf_2 rfl (lv_at hl 2 rfl) ?_
  obtain ⟨r1, hc2, h⟩ := bd_ex h
  refine sl_V (q0 := 0) (ci := 11) (C := RX11) K (mX11_layRuns l G F xx σxx x1 x2 hc2) tw_5_118 tw_1_12 tw_5_117 tw_0_14 tw_5_115 cdX11_layRuns ⟨Nat.le_of_ble_eq_true rfl, Nat.le_of_ble_eq_true rfl⟩ hP hD hS [0] rfl rfl rfl rfl rfl rfl rfl hl.1 (Nat.le_of_ble_eq_true rfl) ⟨Nat.zero_le _, Nat.zero_le _⟩ dX11_countedOf_3 (fun H locs hP hD hS => ?_)
  have hP : va_P G.1 vwCl (List.flatten [wX G xx r1.2]) H := hP
  have hD : va_D A (List.flatten [wX G xx r1.2]) := hD
  refine lv_istore_n (lv' := [(3, .int r1.1), (0, .ref (xx 0)), (1, .int x1), (2, .int x2)]) hx hb dX11_countedOf_6 rfl hl (Nat.le_of_ble_eq_true rfl) rfl (fun ls hl => ?_)
  refine lv_bipush (v := 6) hx hb dX11_countedOf_7 lb_6 ?_
  refine lv_iload_n hx hb dX11_countedOf_9 rfl (lv_at hl 3 rfl) ?_
  obtain ⟨r3, hc4, h⟩ := bd_ex h
  refine sl_S K (mX11_longAt l G F (6 : Int32) x2 hc4) tw_5_95 tw_1_12 tw_5_94 tw_5_93 cdX11_longAt ⟨Nat.le_of_ble_eq_true rfl, Nat.le_of_ble_eq_true rfl⟩ hP hD hS [] rfl rfl rfl rfl hl.1 (Nat.le_of_ble_eq_true rfl) ⟨Nat.zero_le _, Nat.zero_le _⟩ dX11_countedOf_10 (fun H locs hP hD hS => ?_)
  have hP : va_P G.1 vwCl (List.flatten [wX G xx r1.2]) H := hP
  have hD : va_D A (List.flatten [wX G xx r1.2]) := hD
  refine lv_istore (lv' := [(4, .int r3), (3, .int r1.1), (0, .ref (xx 0)), (1, .int x1), (2, .int x2)]) hx hb dX11_countedOf_13 hl (Nat.le_of_ble_eq_true rfl) rfl (fun ls hl => ?_)
  refine lv_iconst (v := 0) hx hb dX11_countedOf_15 li_0 ?_
  refine lv_istore (lv' := [(5, .int (0 : Int32)), (4, .int r3), (3, .int r1.1), (0, .ref (xx 0)), (1, .int x1), (2, .int x2)]) hx hb dX11_countedOf_16 hl (Nat.le_of_ble_eq_true rfl) rfl (fun ls hl => ?_)
  refine lv_iconst (v := 0) hx hb dX11_countedOf_18 li_0 ?_
  refine lv_istore (lv' := [(6, .int (0 : Int32)), (5, .int (0 : Int32)), (4, .int r3), (3, .int r1.1), (0, .ref (xx 0)), (1, .int x1), (2, .int x2)]) hx hb dX11_countedOf_19 hl (Nat.le_of_ble_eq_true rfl) rfl (fun ls hl => ?_)
  obtain ⟨z14, hz15, h⟩ := bd_ex h
  refine kX11_countedOf_21 K F xx r1.2 x1 x2 r1.1 r3 (fun H locs ls hP hD hS hl => ?_) F (0 : Int32) (0 : Int32) _ _ _ hP hD hS (lv_sub hl [4, 5, 6, 3, 2, 1, 0] rfl) hz15
  refine lv_iload hx hb dX11_countedOf_85 (lv_at hl 5 rfl) ?_
  cases h
  exact rt_i K hP hD hS dX11_countedOf_87
def fX11_counted (F : Nat) (σxx : ST) (x1 : Int32) (x2 : Int32) : Option (Int32 × ST) :=
  (fX11_isHill F σxx x1).bind fun r1 =>
  if r1 = 0 then
    some ((-1 : Int32), σxx)
  else
    (fX11_isMinute F x2).bind fun r4 =>
    if r4 = 0 then
      some ((-2 : Int32), σxx)
    else
      (fX11_countedOf F σxx x1 x2).bind fun r7 =>
      some (r7.1, r7.2)
theorem cdX11_counted : CallD yX11_counted 2 := by decide +kernel
set_option maxHeartbeats 4000000 in
set_option maxRecDepth 100000 in
theorem mX11_counted (l : Launch) (G : GP) (F : Nat) (xx : Nat → Nat) (σxx : ST) (x1 : Int32) (x2 : Int32) {r : Int32 × ST} (h : fX11_counted F σxx x1 x2 = some r) : CC l G yX11_counted cX11_counted 3 (some .int) 7 [.ref (xx 0), .int x1, .int x2] (List.flatten [wX G xx σxx]) (List.flatten [wX G xx r.2]) (some (.int r.1)) := by
  refine CC.of (by decide) (Nat.le_of_ble_eq_true rfl) ?_
  intro p e s m below meth c A K hP hD hS ls hl
  obtain ⟨hx, hb, hr, hml, hts, hown, hlocks, hA, hG⟩ := id K
  have hl : lv_has ls 3 [(0, .ref (xx 0)), (1, .int x1), (2, .int x2)] := hl
  unfold fX11_counted at h
  refine lv_aload_n hx hb dX11_counted_0 rfl (lv_at hl 0 rfl) ?_
  refine lv_iload_n hx hb dX11_counted_1 rfl (lv_at hl 1 rfl) ?_
  obtain ⟨r1, hc2, h⟩ := bd_ex h
  refine sl_V (q0 := 0) (ci := 11) (C := RX11) K (mX11_isHill l G F xx σxx x1 hc2) tw_5_51 tw_1_12 tw_5_50 tw_0_9 tw_5_48 cdX11_isHill ⟨Nat.le_of_ble_eq_true rfl, Nat.le_of_ble_eq_true rfl⟩ hP hD hS [0] rfl rfl rfl rfl rfl rfl rfl hl.1 (Nat.le_of_ble_eq_true rfl) ⟨Nat.zero_le _, Nat.zero_le _⟩ dX11_counted_2 (fun H locs hP hD hS => ?_)
  have hP : va_P G.1 vwCl (List.flatten [wX G xx σxx]) H := hP
  have hD : va_D A (List.flatten [wX G xx σxx]) := hD
  refine lv_if_ne (tgt := 10) hx hb dX11_counted_5 (by decide) (fun c3 => ?_) (fun c3 => ?_)
  · have h := if_f c3 h
    refine lv_iload_n hx hb dX11_counted_10 rfl (lv_at hl 2 rfl) ?_
    obtain ⟨r4, hc5, h⟩ := bd_ex h
    refine sl_S K (mX11_isMinute l G F x2 hc5) tw_5_91 tw_1_12 tw_5_90 tw_5_89 cdX11_isMinute ⟨Nat.le_of_ble_eq_true rfl, Nat.le_of_ble_eq_true rfl⟩ hP hD hS [] rfl rfl rfl rfl hl.1 (Nat.le_of_ble_eq_true rfl) ⟨Nat.zero_le _, Nat.zero_le _⟩ dX11_counted_11 (fun H locs hP hD hS => ?_)
    have hP : va_P G.1 vwCl (List.flatten [wX G xx σxx]) H := hP
    have hD : va_D A (List.flatten [wX G xx σxx]) := hD
    refine lv_if_eq (tgt := 26) hx hb dX11_counted_14 (by decide) (fun c6 => ?_) (fun c6 => ?_)
    · have h := if_t c6 h
      refine lv_bipush (v := -2) hx hb dX11_counted_26 lb_m2 ?_
      cases h
      exact rt_i K hP hD hS dX11_counted_28
    · have h := if_f c6 h
      refine lv_aload_n hx hb dX11_counted_17 rfl (lv_at hl 0 rfl) ?_
      refine lv_iload_n hx hb dX11_counted_18 rfl (lv_at hl 1 rfl) ?_
      refine lv_iload_n hx hb dX11_counted_19 rfl (lv_at hl 2 rfl) ?_
      obtain ⟨r7, hc8, h⟩ := bd_ex h
      refine sl_V (q0 := 0) (ci := 11) (C := RX11) K (mX11_countedOf l G F xx σxx x1 x2 hc8) tw_5_135 tw_1_12 tw_5_134 tw_0_15 tw_5_132 cdX11_countedOf ⟨Nat.le_of_ble_eq_true rfl, Nat.le_of_ble_eq_true rfl⟩ hP hD hS [0] rfl rfl rfl rfl rfl rfl rfl hl.1 (Nat.le_of_ble_eq_true rfl) ⟨Nat.zero_le _, Nat.zero_le _⟩ dX11_counted_20 (fun H locs hP hD hS => ?_)
      have hP : va_P G.1 vwCl (List.flatten [wX G xx r7.2]) H := hP
      have hD : va_D A (List.flatten [wX G xx r7.2]) := hD
      refine lv_goto (tgt := 28) hx hb dX11_counted_23 (by decide) ?_
      cases h
      exact rt_i K hP hD hS dX11_counted_28
  · have h := if_t c3 h
    refine lv_iconst (v := -1) hx hb dX11_counted_8 li_m1 ?_
    cases h
    exact rt_i K hP hD hS dX11_counted_9
def gbX11_counts_4 (F : Nat) (σxx : ST) (rc : Int32 → Int32 → Option (Int32 × Int32)) (v1 : Int32) (v2 : Int32) : Option (Int32 × Int32) :=
  if (σxx.1 11) ≤ v2 then
    some (v1, v2)
  else
    if ((3 : Int32) * v2) < 0 ∨ 24 ≤ ((3 : Int32) * v2).toNatClampNeg then none else
    (fX11_manyOf F (σxx.2.1 7 ((3 : Int32) * v2).toNatClampNeg)).bind fun r3 =>
    rc (v1 + r3) (v2 + 1)
def gX11_counts_4 (F : Nat) (σxx : ST) : Nat → Int32 → Int32 → Option (Int32 × Int32)
  | 0, _, _ => none
  | n + 1, v1, v2 => gbX11_counts_4 F σxx (gX11_counts_4 F σxx n) v1 v2
set_option maxHeartbeats 4000000 in
set_option maxRecDepth 100000 in
theorem kX11_counts_4 {p : Program} {l : Launch} {e : Env} {s : State} {m : MethodId} {args : Array Value} {below : List Frame} {meth : Method} {c : Code} {A : Nat → Prop} {Q : State → Prop} {G : GP} (K : Cx p s m meth c G cX11_counts RX11 3 (some .int) args A) (F : Nat) (xx : Nat → Nat) (σxx : ST) {z : Int32 × Int32} (kk : ∀ (H : Heap) (locs : List Loc) (ls : Array Slot), va_P G.1 vwCl (List.flatten [wX G xx σxx]) H → va_D A (List.flatten [wX G xx σxx]) → va_S A s.heap H locs → lv_has ls 3 [(0, .ref (xx 0)), (1, .int z.1), (2, .int z.2)] → W p l e (RM 2) s m args below meth c H locs 0 0 Q (F0 m 32 ls [])) :
    ∀ (n : Nat) (v1 : Int32) (v2 : Int32) (H : Heap) (locs : List Loc) (ls : Array Slot), va_P G.1 vwCl (List.flatten [wX G xx σxx]) H → va_D A (List.flatten [wX G xx σxx]) → va_S A s.heap H locs → lv_has ls 3 [(0, .ref (xx 0)), (1, .int v1), (2, .int v2)] → gX11_counts_4 F σxx n v1 v2 = some z → W p l e (RM 2) s m args below meth c H locs 0 0 Q (F0 m 4 ls []) := by
  obtain ⟨hx, hb, hr, hml, hts, hown, hlocks, hA, hG⟩ := id K
  intro n
  induction n with
  | zero =>
    intro v1 v2 H locs ls hP hD hS hl h
    have h : none = some z := h
    cases h
  | succ n ih =>
    intro v1 v2 H locs ls hP hD hS hl h
    have h : gbX11_counts_4 F σxx (gX11_counts_4 F σxx n) v1 v2 = some z := h
    unfold gbX11_counts_4 at h
    refine lv_iload_n hx hb dX11_counts_4 rfl (lv_at hl 2 rfl) ?_
    refine lv_aload_n hx hb dX11_counts_5 rfl (lv_at hl 0 rfl) ?_
    refine va_get (D := G.1) (cl := vwCl) (tys := tysG G) (ci := 11) (v := .int (σxx.1 11)) (C := RX11) (T := TX11) (N := 37) hx hb hts iX11 hown hG.1 hP 0 rfl rfl 11 (Nat.le_of_ble_eq_true rfl) (hts _ tw_4_108) (fun _ h9 => h9) rfl dX11_counts_6 ?_
    refine lv_icmp_ge (tgt := 32) hx hb dX11_counts_9 (by decide) (fun c1 => ?_) (fun c1 => ?_)
    · have h := if_t c1 h
      cases h
      exact kk _ _ _ hP hD hS (lv_sub hl [0, 1, 2] rfl)
    · have h := if_f c1 h
      refine lv_iload_n hx hb dX11_counts_12 rfl (lv_at hl 1 rfl) ?_
      refine lv_aload_n hx hb dX11_counts_13 rfl (lv_at hl 0 rfl) ?_
      refine va_get (D := G.1) (cl := vwCl) (tys := tysG G) (ci := 11) (v := .ref (xx 8)) (C := RX11) (T := TX11) (N := 37) hx hb hts iX11 hown hG.1 hP 0 rfl rfl 7 (Nat.le_of_ble_eq_true rfl) (hts _ tw_4_104) (fun _ h9 => h9) rfl dX11_counts_14 ?_
      refine lv_iconst (v := 3) hx hb dX11_counts_17 li_3 ?_
      refine lv_iload_n hx hb dX11_counts_18 rfl (lv_at hl 2 rfl) ?_
      refine lv_imul hx hb dX11_counts_19 ?_
      obtain ⟨ck2, h⟩ := ck h
      refine va_iald hx hb hG.1 hP 5 0 rfl rfl ck2 dX11_counts_20 ?_
      obtain ⟨r3, hc4, h⟩ := bd_ex h
      refine sl_S K (mX11_manyOf l G F (σxx.2.1 7 ((3 : Int32) * v2).toNatClampNeg) hc4) tw_5_43 tw_1_12 tw_5_42 tw_5_41 cdX11_manyOf ⟨Nat.le_of_ble_eq_true rfl, Nat.le_of_ble_eq_true rfl⟩ hP hD hS [] rfl rfl rfl rfl hl.1 (Nat.le_of_ble_eq_true rfl) ⟨Nat.zero_le _, Nat.zero_le _⟩ dX11_counts_21 (fun H locs hP hD hS => ?_)
      have hP : va_P G.1 vwCl (List.flatten [wX G xx σxx]) H := hP
      have hD : va_D A (List.flatten [wX G xx σxx]) := hD
      refine lv_iadd hx hb dX11_counts_24 ?_
      refine lv_istore_n (lv' := [(1, .int (v1 + r3)), (0, .ref (xx 0)), (2, .int v2)]) hx hb dX11_counts_25 rfl hl (Nat.le_of_ble_eq_true rfl) rfl (fun ls hl => ?_)
      refine lv_iinc (v := v2 + 1) (lv' := [(2, .int (v2 + 1)), (1, .int (v1 + r3)), (0, .ref (xx 0))]) hx hb dX11_counts_26 hl (k := 2) rfl (by rw [li_1]) (Nat.le_of_ble_eq_true rfl) rfl (fun ls hl => ?_)
      refine lv_goto (tgt := 4) hx hb dX11_counts_29 (by decide) ?_
      exact ih (v1 + r3) (v2 + 1) _ _ _ hP hD hS (lv_sub hl [2, 1, 0] rfl) h
def fX11_counts (F : Nat) (σxx : ST)  : Option (Int32) :=
  (gX11_counts_4 F σxx F (0 : Int32) (0 : Int32)).bind fun z5 =>
    some z5.1
theorem cdX11_counts : CallD yX11_counts 0 := by decide +kernel
set_option maxHeartbeats 4000000 in
set_option maxRecDepth 100000 in
theorem mX11_counts (l : Launch) (G : GP) (F : Nat) (xx : Nat → Nat) (σxx : ST)  {r : Int32} (h : fX11_counts F σxx  = some r) : CC l G yX11_counts cX11_counts 3 (some .int) 2 [.ref (xx 0)] (List.flatten [wX G xx σxx]) (List.flatten [wX G xx σxx]) (some (.int r)) := by
  refine CC.of (by decide) (Nat.le_of_ble_eq_true rfl) ?_
  intro p e s m below meth c A K hP hD hS ls hl
  obtain ⟨hx, hb, hr, hml, hts, hown, hlocks, hA, hG⟩ := id K
  have hl : lv_has ls 3 [(0, .ref (xx 0))] := hl
  unfold fX11_counts at h
  refine lv_iconst (v := 0) hx hb dX11_counts_0 li_0 ?_
  refine lv_istore_n (lv' := [(1, .int (0 : Int32)), (0, .ref (xx 0))]) hx hb dX11_counts_1 rfl hl (Nat.le_of_ble_eq_true rfl) rfl (fun ls hl => ?_)
  refine lv_iconst (v := 0) hx hb dX11_counts_2 li_0 ?_
  refine lv_istore_n (lv' := [(2, .int (0 : Int32)), (1, .int (0 : Int32)), (0, .ref (xx 0))]) hx hb dX11_counts_3 rfl hl (Nat.le_of_ble_eq_true rfl) rfl (fun ls hl => ?_)
  obtain ⟨z5, hz6, h⟩ := bd_ex h
  refine kX11_counts_4 K F xx σxx (fun H locs ls hP hD hS hl => ?_) F (0 : Int32) (0 : Int32) _ _ _ hP hD hS (lv_sub hl [2, 1, 0] rfl) hz6
  refine lv_iload_n hx hb dX11_counts_32 rfl (lv_at hl 1 rfl) ?_
  cases h
  exact rt_i K hP hD hS dX11_counts_33
def gbX11_best_14 (F : Nat) (v1 : Int32) (rc : Int32 → Int32 → ST → Option (Int32 × Int32 × ST)) (v2 : Int32) (v3 : Int32) (σxx : ST) : Option (Int32 × Int32 × ST) :=
  if (16 : Int32) ≤ v3 then
    some (v2, v3, σxx)
  else
    (fX11_countedOf F σxx v1 v3).bind fun r5 =>
    (fX11_counts F r5.2).bind fun r7 =>
    (fX11_without F (r5.1 - r7)).bind fun r9 =>
    (fX11_countedOf F r5.2 v1 v2).bind fun r11 =>
    (fX11_counts F r11.2).bind fun r13 =>
    (fX11_without F (r11.1 - r13)).bind fun r15 =>
    if r15 ≤ r9 then
      rc v2 (v3 + 1) r11.2
    else
      rc v3 (v3 + 1) r11.2
def gX11_best_14 (F : Nat) (v1 : Int32) : Nat → Int32 → Int32 → ST → Option (Int32 × Int32 × ST)
  | 0, _, _, _ => none
  | n + 1, v2, v3, σxx => gbX11_best_14 F v1 (gX11_best_14 F v1 n) v2 v3 σxx
set_option maxHeartbeats 4000000 in
set_option maxRecDepth 100000 in
theorem kX11_best_14 {p : Program} {l : Launch} {e : Env} {s : State} {m : MethodId} {args : Array Value} {below : List Frame} {meth : Method} {c : Code} {A : Nat → Prop} {Q : State → Prop} {G : GP} (K : Cx p s m meth c G cX11_best RX11 4 (some .int) args A) (F : Nat) (xx : Nat → Nat) (v1 : Int32) {z : Int32 × Int32 × ST} (kk : ∀ (H : Heap) (locs : List Loc) (ls : Array Slot), va_P G.1 vwCl (List.flatten [wX G xx z.2.2]) H → va_D A (List.flatten [wX G xx z.2.2]) → va_S A s.heap H locs → lv_has ls 4 [(0, .ref (xx 0)), (1, .int v1), (2, .int z.1), (3, .int z.2.1)] → W p l e (RM 7) s m args below meth c H locs 0 0 Q (F0 m 63 ls [])) :
    ∀ (n : Nat) (v2 : Int32) (v3 : Int32) (σxx : ST) (H : Heap) (locs : List Loc) (ls : Array Slot), va_P G.1 vwCl (List.flatten [wX G xx σxx]) H → va_D A (List.flatten [wX G xx σxx]) → va_S A s.heap H locs → lv_has ls 4 [(0, .ref (xx 0)), (1, .int v1), (2, .int v2), (3, .int v3)] → gX11_best_14 F v1 n v2 v3 σxx = some z → W p l e (RM 7) s m args below meth c H locs 0 0 Q (F0 m 14 ls []) := by
  obtain ⟨hx, hb, hr, hml, hts, hown, hlocks, hA, hG⟩ := id K
  intro n
  induction n with
  | zero =>
    intro v2 v3 σxx H locs ls hP hD hS hl h
    have h : none = some z := h
    cases h
  | succ n ih =>
    intro v2 v3 σxx H locs ls hP hD hS hl h
    have h : gbX11_best_14 F v1 (gX11_best_14 F v1 n) v2 v3 σxx = some z := h
    unfold gbX11_best_14 at h
    refine lv_iload_n hx hb dX11_best_14 rfl (lv_at hl 3 rfl) ?_
    refine lv_bipush (v := 16) hx hb dX11_best_15 lb_16 ?_
    refine lv_icmp_ge (tgt := 63) hx hb dX11_best_17 (by decide) (fun c4 => ?_) (fun c4 => ?_)
    · have h := if_t c4 h
      cases h
      exact kk _ _ _ hP hD hS (lv_sub hl [0, 1, 2, 3] rfl)
    · have h := if_f c4 h
      refine lv_aload_n hx hb dX11_best_20 rfl (lv_at hl 0 rfl) ?_
      refine lv_iload_n hx hb dX11_best_21 rfl (lv_at hl 1 rfl) ?_
      refine lv_iload_n hx hb dX11_best_22 rfl (lv_at hl 3 rfl) ?_
      obtain ⟨r5, hc6, h⟩ := bd_ex h
      refine sl_V (q0 := 0) (ci := 11) (C := RX11) K (mX11_countedOf l G F xx σxx v1 v3 hc6) tw_5_135 tw_1_12 tw_5_134 tw_0_15 tw_5_132 cdX11_countedOf ⟨Nat.le_of_ble_eq_true rfl, Nat.le_of_ble_eq_true rfl⟩ hP hD hS [0] rfl rfl rfl rfl rfl rfl rfl hl.1 (Nat.le_of_ble_eq_true rfl) ⟨Nat.zero_le _, Nat.zero_le _⟩ dX11_best_23 (fun H locs hP hD hS => ?_)
      have hP : va_P G.1 vwCl (List.flatten [wX G xx r5.2]) H := hP
      have hD : va_D A (List.flatten [wX G xx r5.2]) := hD
      refine lv_aload_n hx hb dX11_best_26 rfl (lv_at hl 0 rfl) ?_
      obtain ⟨r7, hc8, h⟩ := bd_ex h
      refine sl_V (q0 := 0) (ci := 11) (C := RX11) K (mX11_counts l G F xx r5.2 hc8) tw_5_143 tw_1_12 tw_5_142 tw_0_16 tw_5_140 cdX11_counts ⟨Nat.le_of_ble_eq_true rfl, Nat.le_of_ble_eq_true rfl⟩ hP hD hS [0] rfl rfl rfl rfl rfl rfl rfl hl.1 (Nat.le_of_ble_eq_true rfl) ⟨Nat.zero_le _, Nat.zero_le _⟩ dX11_best_27 (fun H locs hP hD hS => ?_)
      have hP : va_P G.1 vwCl (List.flatten [wX G xx r5.2]) H := hP
      have hD : va_D A (List.flatten [wX G xx r5.2]) := hD
      refine lv_isub hx hb dX11_best_30 ?_
      obtain ⟨r9, hc10, h⟩ := bd_ex h
      refine sl_S K (mX11_without l G F (r5.1 - r7) hc10) tw_5_76 tw_1_12 tw_5_75 tw_5_74 cdX11_without ⟨Nat.le_of_ble_eq_true rfl, Nat.le_of_ble_eq_true rfl⟩ hP hD hS [] rfl rfl rfl rfl hl.1 (Nat.le_of_ble_eq_true rfl) ⟨Nat.zero_le _, Nat.zero_le _⟩ dX11_best_31 (fun H locs hP hD hS => ?_)
      have hP : va_P G.1 vwCl (List.flatten [wX G xx r5.2]) H := hP
      have hD : va_D A (List.flatten [wX G xx r5.2]) := hD
      refine lv_aload_n hx hb dX11_best_34 rfl (lv_at hl 0 rfl) ?_
      refine lv_iload_n hx hb dX11_best_35 rfl (lv_at hl 1 rfl) ?_
      refine lv_iload_n hx hb dX11_best_36 rfl (lv_at hl 2 rfl) ?_
      obtain ⟨r11, hc12, h⟩ := bd_ex h
      refine sl_V (q0 := 0) (ci := 11) (C := RX11) K (mX11_countedOf l G F xx r5.2 v1 v2 hc12) tw_5_135 tw_1_12 tw_5_134 tw_0_15 tw_5_132 cdX11_countedOf ⟨Nat.le_of_ble_eq_true rfl, Nat.le_of_ble_eq_true rfl⟩ hP hD hS [0] rfl rfl rfl rfl rfl rfl rfl hl.1 (Nat.le_of_ble_eq_true rfl) ⟨Nat.zero_le _, Nat.zero_le _⟩ dX11_best_37 (fun H locs hP hD hS => ?_)
      have hP : va_P G.1 vwCl (List.flatten [wX G xx r11.2]) H := hP
      have hD : va_D A (List.flatten [wX G xx r11.2]) := hD
      refine lv_aload_n hx hb dX11_best_40 rfl (lv_at hl 0 rfl) ?_
      obtain ⟨r13, hc14, h⟩ := bd_ex h
      refine sl_V (q0 := 0) (ci := 11) (C := RX11) K (mX11_counts l G F xx r11.2 hc14) tw_5_143 tw_1_12 tw_5_142 tw_0_16 tw_5_140 cdX11_counts ⟨Nat.le_of_ble_eq_true rfl, Nat.le_of_ble_eq_true rfl⟩ hP hD hS [0] rfl rfl rfl rfl rfl rfl rfl hl.1 (Nat.le_of_ble_eq_true rfl) ⟨Nat.zero_le _, Nat.zero_le _⟩ dX11_best_41 (fun H locs hP hD hS => ?_)
      have hP : va_P G.1 vwCl (List.flatten [wX G xx r11.2]) H := hP
      have hD : va_D A (List.flatten [wX G xx r11.2]) := hD
      refine lv_isub hx hb dX11_best_44 ?_
      obtain ⟨r15, hc16, h⟩ := bd_ex h
      refine sl_S K (mX11_without l G F (r11.1 - r13) hc16) tw_5_76 tw_1_12 tw_5_75 tw_5_74 cdX11_without ⟨Nat.le_of_ble_eq_true rfl, Nat.le_of_ble_eq_true rfl⟩ hP hD hS [] rfl rfl rfl rfl hl.1 (Nat.le_of_ble_eq_true rfl) ⟨Nat.zero_le _, Nat.zero_le _⟩ dX11_best_45 (fun H locs hP hD hS => ?_)
      have hP : va_P G.1 vwCl (List.flatten [wX G xx r11.2]) H := hP
      have hD : va_D A (List.flatten [wX G xx r11.2]) := hD
      refine lv_icmp_ge (tgt := 55) hx hb dX11_best_48 (by decide) (fun c17 => ?_) (fun c17 => ?_)
      · have h := if_t c17 h
        refine lv_iload_n hx hb dX11_best_55 rfl (lv_at hl 2 rfl) ?_
        refine lv_istore_n (lv' := [(2, .int v2), (0, .ref (xx 0)), (1, .int v1), (3, .int v3)]) hx hb dX11_best_56 rfl hl (Nat.le_of_ble_eq_true rfl) rfl (fun ls hl => ?_)
        refine lv_iinc (v := v3 + 1) (lv' := [(3, .int (v3 + 1)), (2, .int v2), (0, .ref (xx 0)), (1, .int v1)]) hx hb dX11_best_57 hl (k := 3) rfl (by rw [li_1]) (Nat.le_of_ble_eq_true rfl) rfl (fun ls hl => ?_)
        refine lv_goto (tgt := 14) hx hb dX11_best_60 (by decide) ?_
        exact ih v2 (v3 + 1) r11.2 _ _ _ hP hD hS (lv_sub hl [2, 3, 1, 0] rfl) h
      · have h := if_f c17 h
        refine lv_iload_n hx hb dX11_best_51 rfl (lv_at hl 3 rfl) ?_
        refine lv_goto (tgt := 56) hx hb dX11_best_52 (by decide) ?_
        refine lv_istore_n (lv' := [(2, .int v3), (0, .ref (xx 0)), (1, .int v1), (3, .int v3)]) hx hb dX11_best_56 rfl hl (Nat.le_of_ble_eq_true rfl) rfl (fun ls hl => ?_)
        refine lv_iinc (v := v3 + 1) (lv' := [(3, .int (v3 + 1)), (2, .int v3), (0, .ref (xx 0)), (1, .int v1)]) hx hb dX11_best_57 hl (k := 3) rfl (by rw [li_1]) (Nat.le_of_ble_eq_true rfl) rfl (fun ls hl => ?_)
        refine lv_goto (tgt := 14) hx hb dX11_best_60 (by decide) ?_
        exact ih v3 (v3 + 1) r11.2 _ _ _ hP hD hS (lv_sub hl [2, 3, 1, 0] rfl) h
def fX11_best (F : Nat) (σxx : ST) (x1 : Int32) : Option (Int32 × ST) :=
  (fX11_isHill F σxx x1).bind fun r1 =>
  if r1 = 0 then
    some ((-1 : Int32), σxx)
  else
    (gX11_best_14 F x1 F (0 : Int32) (1 : Int32) σxx).bind fun z18 =>
      some (z18.1, z18.2.2)
theorem cdX11_best : CallD yX11_best 1 := by decide +kernel
set_option maxHeartbeats 4000000 in
set_option maxRecDepth 100000 in
theorem mX11_best (l : Launch) (G : GP) (F : Nat) (xx : Nat → Nat) (σxx : ST) (x1 : Int32) {r : Int32 × ST} (h : fX11_best F σxx x1 = some r) : CC l G yX11_best cX11_best 4 (some .int) 7 [.ref (xx 0), .int x1] (List.flatten [wX G xx σxx]) (List.flatten [wX G xx r.2]) (some (.int r.1)) := by
  refine CC.of (by decide) (Nat.le_of_ble_eq_true rfl) ?_
  intro p e s m below meth c A K hP hD hS ls hl
  obtain ⟨hx, hb, hr, hml, hts, hown, hlocks, hA, hG⟩ := id K
  have hl : lv_has ls 4 [(0, .ref (xx 0)), (1, .int x1)] := hl
  unfold fX11_best at h
  refine lv_aload_n hx hb dX11_best_0 rfl (lv_at hl 0 rfl) ?_
  refine lv_iload_n hx hb dX11_best_1 rfl (lv_at hl 1 rfl) ?_
  obtain ⟨r1, hc2, h⟩ := bd_ex h
  refine sl_V (q0 := 0) (ci := 11) (C := RX11) K (mX11_isHill l G F xx σxx x1 hc2) tw_5_51 tw_1_12 tw_5_50 tw_0_9 tw_5_48 cdX11_isHill ⟨Nat.le_of_ble_eq_true rfl, Nat.le_of_ble_eq_true rfl⟩ hP hD hS [0] rfl rfl rfl rfl rfl rfl rfl hl.1 (Nat.le_of_ble_eq_true rfl) ⟨Nat.zero_le _, Nat.zero_le _⟩ dX11_best_2 (fun H locs hP hD hS => ?_)
  have hP : va_P G.1 vwCl (List.flatten [wX G xx σxx]) H := hP
  have hD : va_D A (List.flatten [wX G xx σxx]) := hD
  refine lv_if_ne (tgt := 10) hx hb dX11_best_5 (by decide) (fun c3 => ?_) (fun c3 => ?_)
  · have h := if_f c3 h
    refine lv_iconst (v := 0) hx hb dX11_best_10 li_0 ?_
    refine lv_istore_n (lv' := [(2, .int (0 : Int32)), (0, .ref (xx 0)), (1, .int x1)]) hx hb dX11_best_11 rfl hl (Nat.le_of_ble_eq_true rfl) rfl (fun ls hl => ?_)
    refine lv_iconst (v := 1) hx hb dX11_best_12 li_1 ?_
    refine lv_istore_n (lv' := [(3, .int (1 : Int32)), (2, .int (0 : Int32)), (0, .ref (xx 0)), (1, .int x1)]) hx hb dX11_best_13 rfl hl (Nat.le_of_ble_eq_true rfl) rfl (fun ls hl => ?_)
    obtain ⟨z18, hz19, h⟩ := bd_ex h
    refine kX11_best_14 K F xx x1 (fun H locs ls hP hD hS hl => ?_) F (0 : Int32) (1 : Int32) σxx _ _ _ hP hD hS (lv_sub hl [2, 3, 1, 0] rfl) hz19
    refine lv_iload_n hx hb dX11_best_63 rfl (lv_at hl 2 rfl) ?_
    cases h
    exact rt_i K hP hD hS dX11_best_64
  · have h := if_t c3 h
    refine lv_iconst (v := -1) hx hb dX11_best_8 li_m1 ?_
    cases h
    exact rt_i K hP hD hS dX11_best_9
def gbX11_isHidden_35 (F : Nat) (σxx : ST) (v1 : Int32) (v2 : Int32) (v3 : Int32) (v4 : Int32) (v5 : Int32) (rc : Int32 → Int32 → Option (Int32 × Int32)) (v6 : Int32) (v7 : Int32) : Option (Int32 × Int32) :=
  if (σxx.1 12) ≤ v7 then
    some (v6, v7)
  else
    if (((4 : Int32) * v7) + (2 : Int32)) < 0 ∨ 12 ≤ (((4 : Int32) * v7) + (2 : Int32)).toNatClampNeg then none else
    if (((4 : Int32) * v7) + (3 : Int32)) < 0 ∨ 12 ≤ (((4 : Int32) * v7) + (3 : Int32)).toNatClampNeg then none else
    (fX11_in F v3.toInt64 ((σxx.2.1 8 (((4 : Int32) * v7) + (2 : Int32)).toNatClampNeg).toInt64) ((σxx.2.1 8 (((4 : Int32) * v7) + (3 : Int32)).toNatClampNeg).toInt64)).bind fun r10 =>
    if r10 = 0 then
      if v6 = 0 then
        rc (0 : Int32) (v7 + 1)
      else
        rc (1 : Int32) (v7 + 1)
    else
      if ((4 : Int32) * v7) < 0 ∨ 12 ≤ ((4 : Int32) * v7).toNatClampNeg then none else
      if (((4 : Int32) * v7) + (1 : Int32)) < 0 ∨ 12 ≤ (((4 : Int32) * v7) + (1 : Int32)).toNatClampNeg then none else
      (fX11_bits F (σxx.2.1 8 ((4 : Int32) * v7).toNatClampNeg) (σxx.2.1 8 (((4 : Int32) * v7) + (1 : Int32)).toNatClampNeg)).bind fun r16 =>
      if (v5 &&& r16) = 0 then
        if v6 = 0 then
          rc (0 : Int32) (v7 + 1)
        else
          rc (1 : Int32) (v7 + 1)
      else
        if v6 = 0 then
          rc (0 : Int32) (v7 + 1)
        else
          rc (0 : Int32) (v7 + 1)
def gX11_isHidden_35 (F : Nat) (σxx : ST) (v1 : Int32) (v2 : Int32) (v3 : Int32) (v4 : Int32) (v5 : Int32) : Nat → Int32 → Int32 → Option (Int32 × Int32)
  | 0, _, _ => none
  | n + 1, v6, v7 => gbX11_isHidden_35 F σxx v1 v2 v3 v4 v5 (gX11_isHidden_35 F σxx v1 v2 v3 v4 v5 n) v6 v7
set_option maxHeartbeats 4000000 in
set_option maxRecDepth 100000 in
theorem kX11_isHidden_35 {p : Program} {l : Launch} {e : Env} {s : State} {m : MethodId} {args : Array Value} {below : List Frame} {meth : Method} {c : Code} {A : Nat → Prop} {Q : State → Prop} {G : GP} (K : Cx p s m meth c G cX11_isHidden RX11 9 (some .boolean) args A) (F : Nat) (xx : Nat → Nat) (σxx : ST) (v1 : Int32) (v2 : Int32) (v3 : Int32) (v4 : Int32) (v5 : Int32) {z : Int32 × Int32} (kk : ∀ (H : Heap) (locs : List Loc) (ls : Array Slot), va_P G.1 vwCl (List.flatten [wX G xx σxx]) H → va_D A (List.flatten [wX G xx σxx]) → va_S A s.heap H locs → lv_has ls 9 [(0, .ref (xx 0)), (1, .int v1), (2, .int v2), (3, .int v3), (4, .int v4), (5, .int v5), (6, .int z.1), (7, .int z.2)] → W p l e (RM 5) s m args below meth c H locs 0 0 Q (F0 m 135 ls [])) :
    ∀ (n : Nat) (v6 : Int32) (v7 : Int32) (H : Heap) (locs : List Loc) (ls : Array Slot), va_P G.1 vwCl (List.flatten [wX G xx σxx]) H → va_D A (List.flatten [wX G xx σxx]) → va_S A s.heap H locs → lv_has ls 9 [(0, .ref (xx 0)), (1, .int v1), (2, .int v2), (3, .int v3), (4, .int v4), (5, .int v5), (6, .int v6), (7, .int v7)] → gX11_isHidden_35 F σxx v1 v2 v3 v4 v5 n v6 v7 = some z → W p l e (RM 5) s m args below meth c H locs 0 0 Q (F0 m 35 ls []) := by
  obtain ⟨hx, hb, hr, hml, hts, hown, hlocks, hA, hG⟩ := id K
  intro n
  induction n with
  | zero =>
    intro v6 v7 H locs ls hP hD hS hl h
    have h : none = some z := h
    cases h
  | succ n ih =>
    intro v6 v7 H locs ls hP hD hS hl h
    have h : gbX11_isHidden_35 F σxx v1 v2 v3 v4 v5 (gX11_isHidden_35 F σxx v1 v2 v3 v4 v5 n) v6 v7 = some z := h
    unfold gbX11_isHidden_35 at h
    refine lv_iload hx hb dX11_isHidden_35 (lv_at hl 7 rfl) ?_
    refine lv_aload_n hx hb dX11_isHidden_37 rfl (lv_at hl 0 rfl) ?_
    refine va_get (D := G.1) (cl := vwCl) (tys := tysG G) (ci := 11) (v := .int (σxx.1 12)) (C := RX11) (T := TX11) (N := 37) hx hb hts iX11 hown hG.1 hP 0 rfl rfl 12 (Nat.le_of_ble_eq_true rfl) (hts _ tw_4_109) (fun _ h9 => h9) rfl dX11_isHidden_38 ?_
    refine lv_icmp_ge (tgt := 135) hx hb dX11_isHidden_41 (by decide) (fun c7 => ?_) (fun c7 => ?_)
    · have h := if_t c7 h
      cases h
      exact kk _ _ _ hP hD hS (lv_sub hl [0, 1, 2, 3, 4, 5, 6, 7] rfl)
    · have h := if_f c7 h
      refine lv_iload_n hx hb dX11_isHidden_44 rfl (lv_at hl 3 rfl) ?_
      refine lv_i2l (v := v3.toInt64) hx hb dX11_isHidden_45 rfl ?_
      refine lv_aload_n hx hb dX11_isHidden_46 rfl (lv_at hl 0 rfl) ?_
      refine va_get (D := G.1) (cl := vwCl) (tys := tysG G) (ci := 11) (v := .ref (xx 9)) (C := RX11) (T := TX11) (N := 37) hx hb hts iX11 hown hG.1 hP 0 rfl rfl 8 (Nat.le_of_ble_eq_true rfl) (hts _ tw_4_105) (fun _ h9 => h9) rfl dX11_isHidden_47 ?_
      refine lv_iconst (v := 4) hx hb dX11_isHidden_50 li_4 ?_
      refine lv_iload hx hb dX11_isHidden_51 (lv_at hl 7 rfl) ?_
      refine lv_imul hx hb dX11_isHidden_53 ?_
      refine lv_iconst (v := 2) hx hb dX11_isHidden_54 li_2 ?_
      refine lv_iadd hx hb dX11_isHidden_55 ?_
      obtain ⟨ck8, h⟩ := ck h
      refine va_iald hx hb hG.1 hP 6 0 rfl rfl ck8 dX11_isHidden_56 ?_
      refine lv_i2l (v := (σxx.2.1 8 (((4 : Int32) * v7) + (2 : Int32)).toNatClampNeg).toInt64) hx hb dX11_isHidden_57 rfl ?_
      refine lv_aload_n hx hb dX11_isHidden_58 rfl (lv_at hl 0 rfl) ?_
      refine va_get (D := G.1) (cl := vwCl) (tys := tysG G) (ci := 11) (v := .ref (xx 9)) (C := RX11) (T := TX11) (N := 37) hx hb hts iX11 hown hG.1 hP 0 rfl rfl 8 (Nat.le_of_ble_eq_true rfl) (hts _ tw_4_105) (fun _ h9 => h9) rfl dX11_isHidden_59 ?_
      refine lv_iconst (v := 4) hx hb dX11_isHidden_62 li_4 ?_
      refine lv_iload hx hb dX11_isHidden_63 (lv_at hl 7 rfl) ?_
      refine lv_imul hx hb dX11_isHidden_65 ?_
      refine lv_iconst (v := 3) hx hb dX11_isHidden_66 li_3 ?_
      refine lv_iadd hx hb dX11_isHidden_67 ?_
      obtain ⟨ck9, h⟩ := ck h
      refine va_iald hx hb hG.1 hP 6 0 rfl rfl ck9 dX11_isHidden_68 ?_
      refine lv_i2l (v := (σxx.2.1 8 (((4 : Int32) * v7) + (3 : Int32)).toNatClampNeg).toInt64) hx hb dX11_isHidden_69 rfl ?_
      obtain ⟨r10, hc11, h⟩ := bd_ex h
      refine sl_S K (mX11_in l G F v3.toInt64 ((σxx.2.1 8 (((4 : Int32) * v7) + (2 : Int32)).toNatClampNeg).toInt64) ((σxx.2.1 8 (((4 : Int32) * v7) + (3 : Int32)).toNatClampNeg).toInt64) hc11) tw_4_217 tw_1_12 tw_4_216 tw_4_215 cdX11_in ⟨Nat.le_of_ble_eq_true rfl, Nat.le_of_ble_eq_true rfl⟩ hP hD hS [] rfl rfl rfl rfl hl.1 (Nat.le_of_ble_eq_true rfl) ⟨Nat.zero_le _, Nat.zero_le _⟩ dX11_isHidden_70 (fun H locs hP hD hS => ?_)
      have hP : va_P G.1 vwCl (List.flatten [wX G xx σxx]) H := hP
      have hD : va_D A (List.flatten [wX G xx σxx]) := hD
      refine lv_if_eq (tgt := 109) hx hb dX11_isHidden_73 (by decide) (fun c12 => ?_) (fun c12 => ?_)
      · have h := if_t c12 h
        refine lv_iconst (v := 0) hx hb dX11_isHidden_109 li_0 ?_
        refine lv_istore (lv' := [(8, .int (0 : Int32)), (0, .ref (xx 0)), (1, .int v1), (2, .int v2), (3, .int v3), (4, .int v4), (5, .int v5), (6, .int v6), (7, .int v7)]) hx hb dX11_isHidden_110 hl (Nat.le_of_ble_eq_true rfl) rfl (fun ls hl => ?_)
        refine lv_iload hx hb dX11_isHidden_112 (lv_at hl 7 rfl) ?_
        refine lv_if_eq (tgt := 126) hx hb dX11_isHidden_114 (by decide) (fun c13 => ?_) (fun c13 => ?_)
        · have h := if_t c13 h
          refine lv_iconst (v := 0) hx hb dX11_isHidden_126 li_0 ?_
          refine lv_istore (lv' := [(6, .int (0 : Int32)), (8, .int (0 : Int32)), (0, .ref (xx 0)), (1, .int v1), (2, .int v2), (3, .int v3), (4, .int v4), (5, .int v5), (7, .int v7)]) hx hb dX11_isHidden_127 hl (Nat.le_of_ble_eq_true rfl) rfl (fun ls hl => ?_)
          refine lv_iinc (v := v7 + 1) (lv' := [(7, .int (v7 + 1)), (6, .int (0 : Int32)), (8, .int (0 : Int32)), (0, .ref (xx 0)), (1, .int v1), (2, .int v2), (3, .int v3), (4, .int v4), (5, .int v5)]) hx hb dX11_isHidden_129 hl (k := 8) rfl (by rw [li_1]) (Nat.le_of_ble_eq_true rfl) rfl (fun ls hl => ?_)
          refine lv_goto (tgt := 35) hx hb dX11_isHidden_132 (by decide) ?_
          exact ih (0 : Int32) (v7 + 1) _ _ _ hP hD hS (lv_sub hl [3, 4, 5, 6, 7, 8, 1, 0] rfl) h
        · have h := if_f c13 h
          refine lv_iload hx hb dX11_isHidden_117 (lv_at hl 0 rfl) ?_
          refine lv_if_ne (tgt := 126) hx hb dX11_isHidden_119 (by decide) (fun c9 => absurd c9 (by decide)) (fun c9 => ?_)
          refine lv_iconst (v := 1) hx hb dX11_isHidden_122 li_1 ?_
          refine lv_goto (tgt := 127) hx hb dX11_isHidden_123 (by decide) ?_
          refine lv_istore (lv' := [(6, .int (1 : Int32)), (8, .int (0 : Int32)), (0, .ref (xx 0)), (1, .int v1), (2, .int v2), (3, .int v3), (4, .int v4), (5, .int v5), (7, .int v7)]) hx hb dX11_isHidden_127 hl (Nat.le_of_ble_eq_true rfl) rfl (fun ls hl => ?_)
          refine lv_iinc (v := v7 + 1) (lv' := [(7, .int (v7 + 1)), (6, .int (1 : Int32)), (8, .int (0 : Int32)), (0, .ref (xx 0)), (1, .int v1), (2, .int v2), (3, .int v3), (4, .int v4), (5, .int v5)]) hx hb dX11_isHidden_129 hl (k := 8) rfl (by rw [li_1]) (Nat.le_of_ble_eq_true rfl) rfl (fun ls hl => ?_)
          refine lv_goto (tgt := 35) hx hb dX11_isHidden_132 (by decide) ?_
          exact ih (1 : Int32) (v7 + 1) _ _ _ hP hD hS (lv_sub hl [3, 4, 5, 6, 7, 8, 1, 0] rfl) h
      · have h := if_f c12 h
        refine lv_iload hx hb dX11_isHidden_76 (lv_at hl 5 rfl) ?_
        refine lv_aload_n hx hb dX11_isHidden_78 rfl (lv_at hl 0 rfl) ?_
        refine va_get (D := G.1) (cl := vwCl) (tys := tysG G) (ci := 11) (v := .ref (xx 9)) (C := RX11) (T := TX11) (N := 37) hx hb hts iX11 hown hG.1 hP 0 rfl rfl 8 (Nat.le_of_ble_eq_true rfl) (hts _ tw_4_105) (fun _ h9 => h9) rfl dX11_isHidden_79 ?_
        refine lv_iconst (v := 4) hx hb dX11_isHidden_82 li_4 ?_
        refine lv_iload hx hb dX11_isHidden_83 (lv_at hl 7 rfl) ?_
        refine lv_imul hx hb dX11_isHidden_85 ?_
        obtain ⟨ck14, h⟩ := ck h
        refine va_iald hx hb hG.1 hP 6 0 rfl rfl ck14 dX11_isHidden_86 ?_
        refine lv_aload_n hx hb dX11_isHidden_87 rfl (lv_at hl 0 rfl) ?_
        refine va_get (D := G.1) (cl := vwCl) (tys := tysG G) (ci := 11) (v := .ref (xx 9)) (C := RX11) (T := TX11) (N := 37) hx hb hts iX11 hown hG.1 hP 0 rfl rfl 8 (Nat.le_of_ble_eq_true rfl) (hts _ tw_4_105) (fun _ h9 => h9) rfl dX11_isHidden_88 ?_
        refine lv_iconst (v := 4) hx hb dX11_isHidden_91 li_4 ?_
        refine lv_iload hx hb dX11_isHidden_92 (lv_at hl 7 rfl) ?_
        refine lv_imul hx hb dX11_isHidden_94 ?_
        refine lv_iconst (v := 1) hx hb dX11_isHidden_95 li_1 ?_
        refine lv_iadd hx hb dX11_isHidden_96 ?_
        obtain ⟨ck15, h⟩ := ck h
        refine va_iald hx hb hG.1 hP 6 0 rfl rfl ck15 dX11_isHidden_97 ?_
        obtain ⟨r16, hc17, h⟩ := bd_ex h
        refine sl_S K (mX11_bits l G F (σxx.2.1 8 ((4 : Int32) * v7).toNatClampNeg) (σxx.2.1 8 (((4 : Int32) * v7) + (1 : Int32)).toNatClampNeg) hc17) tw_5_20 tw_1_12 tw_5_19 tw_5_18 cdX11_bits ⟨Nat.le_of_ble_eq_true rfl, Nat.le_of_ble_eq_true rfl⟩ hP hD hS [] rfl rfl rfl rfl hl.1 (Nat.le_of_ble_eq_true rfl) ⟨Nat.zero_le _, Nat.zero_le _⟩ dX11_isHidden_98 (fun H locs hP hD hS => ?_)
        have hP : va_P G.1 vwCl (List.flatten [wX G xx σxx]) H := hP
        have hD : va_D A (List.flatten [wX G xx σxx]) := hD
        refine lv_iand hx hb dX11_isHidden_101 ?_
        refine lv_if_eq (tgt := 109) hx hb dX11_isHidden_102 (by decide) (fun c18 => ?_) (fun c18 => ?_)
        · have h := if_t c18 h
          refine lv_iconst (v := 0) hx hb dX11_isHidden_109 li_0 ?_
          refine lv_istore (lv' := [(8, .int (0 : Int32)), (0, .ref (xx 0)), (1, .int v1), (2, .int v2), (3, .int v3), (4, .int v4), (5, .int v5), (6, .int v6), (7, .int v7)]) hx hb dX11_isHidden_110 hl (Nat.le_of_ble_eq_true rfl) rfl (fun ls hl => ?_)
          refine lv_iload hx hb dX11_isHidden_112 (lv_at hl 7 rfl) ?_
          refine lv_if_eq (tgt := 126) hx hb dX11_isHidden_114 (by decide) (fun c19 => ?_) (fun c19 => ?_)
          · have h := if_t c19 h
            refine lv_iconst (v := 0) hx hb dX11_isHidden_126 li_0 ?_
            refine lv_istore (lv' := [(6, .int (0 : Int32)), (8, .int (0 : Int32)), (0, .ref (xx 0)), (1, .int v1), (2, .int v2), (3, .int v3), (4, .int v4), (5, .int v5), (7, .int v7)]) hx hb dX11_isHidden_127 hl (Nat.le_of_ble_eq_true rfl) rfl (fun ls hl => ?_)
            refine lv_iinc (v := v7 + 1) (lv' := [(7, .int (v7 + 1)), (6, .int (0 : Int32)), (8, .int (0 : Int32)), (0, .ref (xx 0)), (1, .int v1), (2, .int v2), (3, .int v3), (4, .int v4), (5, .int v5)]) hx hb dX11_isHidden_129 hl (k := 8) rfl (by rw [li_1]) (Nat.le_of_ble_eq_true rfl) rfl (fun ls hl => ?_)
            refine lv_goto (tgt := 35) hx hb dX11_isHidden_132 (by decide) ?_
            exact ih (0 : Int32) (v7 + 1) _ _ _ hP hD hS (lv_sub hl [3, 4, 5, 6, 7, 8, 1, 0] rfl) h
          · have h := if_f c19 h
            refine lv_iload hx hb dX11_isHidden_117 (lv_at hl 0 rfl) ?_
            refine lv_if_ne (tgt := 126) hx hb dX11_isHidden_119 (by decide) (fun c9 => absurd c9 (by decide)) (fun c9 => ?_)
            refine lv_iconst (v := 1) hx hb dX11_isHidden_122 li_1 ?_
            refine lv_goto (tgt := 127) hx hb dX11_isHidden_123 (by decide) ?_
            refine lv_istore (lv' := [(6, .int (1 : Int32)), (8, .int (0 : Int32)), (0, .ref (xx 0)), (1, .int v1), (2, .int v2), (3, .int v3), (4, .int v4), (5, .int v5), (7, .int v7)]) hx hb dX11_isHidden_127 hl (Nat.le_of_ble_eq_true rfl) rfl (fun ls hl => ?_)
            refine lv_iinc (v := v7 + 1) (lv' := [(7, .int (v7 + 1)), (6, .int (1 : Int32)), (8, .int (0 : Int32)), (0, .ref (xx 0)), (1, .int v1), (2, .int v2), (3, .int v3), (4, .int v4), (5, .int v5)]) hx hb dX11_isHidden_129 hl (k := 8) rfl (by rw [li_1]) (Nat.le_of_ble_eq_true rfl) rfl (fun ls hl => ?_)
            refine lv_goto (tgt := 35) hx hb dX11_isHidden_132 (by decide) ?_
            exact ih (1 : Int32) (v7 + 1) _ _ _ hP hD hS (lv_sub hl [3, 4, 5, 6, 7, 8, 1, 0] rfl) h
        · have h := if_f c18 h
          refine lv_iconst (v := 1) hx hb dX11_isHidden_105 li_1 ?_
          refine lv_goto (tgt := 110) hx hb dX11_isHidden_106 (by decide) ?_
          refine lv_istore (lv' := [(8, .int (1 : Int32)), (0, .ref (xx 0)), (1, .int v1), (2, .int v2), (3, .int v3), (4, .int v4), (5, .int v5), (6, .int v6), (7, .int v7)]) hx hb dX11_isHidden_110 hl (Nat.le_of_ble_eq_true rfl) rfl (fun ls hl => ?_)
          refine lv_iload hx hb dX11_isHidden_112 (lv_at hl 7 rfl) ?_
          refine lv_if_eq (tgt := 126) hx hb dX11_isHidden_114 (by decide) (fun c20 => ?_) (fun c20 => ?_)
          · have h := if_t c20 h
            refine lv_iconst (v := 0) hx hb dX11_isHidden_126 li_0 ?_
            refine lv_istore (lv' := [(6, .int (0 : Int32)), (8, .int (1 : Int32)), (0, .ref (xx 0)), (1, .int v1), (2, .int v2), (3, .int v3), (4, .int v4), (5, .int v5), (7, .int v7)]) hx hb dX11_isHidden_127 hl (Nat.le_of_ble_eq_true rfl) rfl (fun ls hl => ?_)
            refine lv_iinc (v := v7 + 1) (lv' := [(7, .int (v7 + 1)), (6, .int (0 : Int32)), (8, .int (1 : Int32)), (0, .ref (xx 0)), (1, .int v1), (2, .int v2), (3, .int v3), (4, .int v4), (5, .int v5)]) hx hb dX11_isHidden_129 hl (k := 8) rfl (by rw [li_1]) (Nat.le_of_ble_eq_true rfl) rfl (fun ls hl => ?_)
            refine lv_goto (tgt := 35) hx hb dX11_isHidden_132 (by decide) ?_
            exact ih (0 : Int32) (v7 + 1) _ _ _ hP hD hS (lv_sub hl [3, 4, 5, 6, 7, 8, 1, 0] rfl) h
          · have h := if_f c20 h
            refine lv_iload hx hb dX11_isHidden_117 (lv_at hl 0 rfl) ?_
            refine lv_if_ne (tgt := 126) hx hb dX11_isHidden_119 (by decide) (fun c9 => ?_) (fun c9 => absurd c9 (by decide))
            refine lv_iconst (v := 0) hx hb dX11_isHidden_126 li_0 ?_
            refine lv_istore (lv' := [(6, .int (0 : Int32)), (8, .int (1 : Int32)), (0, .ref (xx 0)), (1, .int v1), (2, .int v2), (3, .int v3), (4, .int v4), (5, .int v5), (7, .int v7)]) hx hb dX11_isHidden_127 hl (Nat.le_of_ble_eq_true rfl) rfl (fun ls hl => ?_)
            refine lv_iinc (v := v7 + 1) (lv' := [(7, .int (v7 + 1)), (6, .int (0 : Int32)), (8, .int (1 : Int32)), (0, .ref (xx 0)), (1, .int v1), (2, .int v2), (3, .int v3), (4, .int v4), (5, .int v5)]) hx hb dX11_isHidden_129 hl (k := 8) rfl (by rw [li_1]) (Nat.le_of_ble_eq_true rfl) rfl (fun ls hl => ?_)
            refine lv_goto (tgt := 35) hx hb dX11_isHidden_132 (by decide) ?_
            exact ih (0 : Int32) (v7 + 1) _ _ _ hP hD hS (lv_sub hl [3, 4, 5, 6, 7, 8, 1, 0] rfl) h
def fX11_isHidden (F : Nat) (σxx : ST) (x1 : Int32) (x2 : Int32) (x3 : Int32) : Option (Int32) :=
  (fX11_darkOf F σxx x1 x3).bind fun r1 =>
  (fX11_reach F (6 : Int32) x2 x1).bind fun r3 =>
  (fX11_lit F σxx x1 x3).bind fun r5 =>
  (gX11_isHidden_35 F σxx x1 x2 x3 r1 ((r3 &&& r5) &&& (r1 ^^^ (-1 : Int32))) F (1 : Int32) (0 : Int32)).bind fun z21 =>
    if ¬ (z21.1 = 0 ∨ z21.1 = 1) then none else
    some z21.1
theorem cdX11_isHidden : CallD yX11_isHidden 3 := by decide +kernel
set_option maxHeartbeats 4000000 in
set_option maxRecDepth 100000 in
theorem mX11_isHidden (l : Launch) (G : GP) (F : Nat) (xx : Nat → Nat) (σxx : ST) (x1 : Int32) (x2 : Int32) (x3 : Int32) {r : Int32} (h : fX11_isHidden F σxx x1 x2 x3 = some r) : CC l G yX11_isHidden cX11_isHidden 9 (some .boolean) 5 [.ref (xx 0), .int x1, .int x2, .int x3] (List.flatten [wX G xx σxx]) (List.flatten [wX G xx σxx]) (some (.int r)) := by
  refine CC.of (by decide) (Nat.le_of_ble_eq_true rfl) ?_
  intro p e s m below meth c A K hP hD hS ls hl
  obtain ⟨hx, hb, hr, hml, hts, hown, hlocks, hA, hG⟩ := id K
  have hl : lv_has ls 9 [(0, .ref (xx 0)), (1, .int x1), (2, .int x2), (3, .int x3)] := hl
  unfold fX11_isHidden at h
  refine lv_aload_n hx hb dX11_isHidden_0 rfl (lv_at hl 0 rfl) ?_
  refine lv_iload_n hx hb dX11_isHidden_1 rfl (lv_at hl 1 rfl) ?_
  refine lv_iload_n hx hb dX11_isHidden_2 rfl (lv_at hl 3 rfl) ?_
  obtain ⟨r1, hc2, h⟩ := bd_ex h
  refine sl_V (q0 := 0) (ci := 11) (C := RX11) K (mX11_darkOf l G F xx σxx x1 x3 hc2) tw_5_103 tw_1_12 tw_5_102 tw_0_12 tw_5_100 cdX11_darkOf ⟨Nat.le_of_ble_eq_true rfl, Nat.le_of_ble_eq_true rfl⟩ hP hD hS [0] rfl rfl rfl rfl rfl rfl rfl hl.1 (Nat.le_of_ble_eq_true rfl) ⟨Nat.zero_le _, Nat.zero_le _⟩ dX11_isHidden_3 (fun H locs hP hD hS => ?_)
  have hP : va_P G.1 vwCl (List.flatten [wX G xx σxx]) H := hP
  have hD : va_D A (List.flatten [wX G xx σxx]) := hD
  refine lv_istore (lv' := [(4, .int r1), (0, .ref (xx 0)), (1, .int x1), (2, .int x2), (3, .int x3)]) hx hb dX11_isHidden_6 hl (Nat.le_of_ble_eq_true rfl) rfl (fun ls hl => ?_)
  refine lv_bipush (v := 6) hx hb dX11_isHidden_8 lb_6 ?_
  refine lv_iload_n hx hb dX11_isHidden_10 rfl (lv_at hl 3 rfl) ?_
  refine lv_iload_n hx hb dX11_isHidden_11 rfl (lv_at hl 2 rfl) ?_
  obtain ⟨r3, hc4, h⟩ := bd_ex h
  refine sl_S K (mX11_reach l G F (6 : Int32) x2 x1 hc4) tw_5_106 tw_1_12 tw_5_105 tw_5_104 cdX11_reach ⟨Nat.le_of_ble_eq_true rfl, Nat.le_of_ble_eq_true rfl⟩ hP hD hS [] rfl rfl rfl rfl hl.1 (Nat.le_of_ble_eq_true rfl) ⟨Nat.zero_le _, Nat.zero_le _⟩ dX11_isHidden_12 (fun H locs hP hD hS => ?_)
  have hP : va_P G.1 vwCl (List.flatten [wX G xx σxx]) H := hP
  have hD : va_D A (List.flatten [wX G xx σxx]) := hD
  refine lv_aload_n hx hb dX11_isHidden_15 rfl (lv_at hl 1 rfl) ?_
  refine lv_iload_n hx hb dX11_isHidden_16 rfl (lv_at hl 2 rfl) ?_
  refine lv_iload_n hx hb dX11_isHidden_17 rfl (lv_at hl 4 rfl) ?_
  obtain ⟨r5, hc6, h⟩ := bd_ex h
  refine sl_V (q0 := 0) (ci := 11) (C := RX11) K (mX11_lit l G F xx σxx x1 x3 hc6) tw_5_110 tw_1_12 tw_5_109 tw_0_13 tw_5_107 cdX11_lit ⟨Nat.le_of_ble_eq_true rfl, Nat.le_of_ble_eq_true rfl⟩ hP hD hS [0] rfl rfl rfl rfl rfl rfl rfl hl.1 (Nat.le_of_ble_eq_true rfl) ⟨Nat.zero_le _, Nat.zero_le _⟩ dX11_isHidden_18 (fun H locs hP hD hS => ?_)
  have hP : va_P G.1 vwCl (List.flatten [wX G xx σxx]) H := hP
  have hD : va_D A (List.flatten [wX G xx σxx]) := hD
  refine lv_iand hx hb dX11_isHidden_21 ?_
  refine lv_iload hx hb dX11_isHidden_22 (lv_at hl 0 rfl) ?_
  refine lv_iconst (v := -1) hx hb dX11_isHidden_24 li_m1 ?_
  refine lv_ixor hx hb dX11_isHidden_25 ?_
  refine lv_iand hx hb dX11_isHidden_26 ?_
  refine lv_istore (lv' := [(5, .int ((r3 &&& r5) &&& (r1 ^^^ (-1 : Int32)))), (4, .int r1), (0, .ref (xx 0)), (1, .int x1), (2, .int x2), (3, .int x3)]) hx hb dX11_isHidden_27 hl (Nat.le_of_ble_eq_true rfl) rfl (fun ls hl => ?_)
  refine lv_iconst (v := 1) hx hb dX11_isHidden_29 li_1 ?_
  refine lv_istore (lv' := [(6, .int (1 : Int32)), (5, .int ((r3 &&& r5) &&& (r1 ^^^ (-1 : Int32)))), (4, .int r1), (0, .ref (xx 0)), (1, .int x1), (2, .int x2), (3, .int x3)]) hx hb dX11_isHidden_30 hl (Nat.le_of_ble_eq_true rfl) rfl (fun ls hl => ?_)
  refine lv_iconst (v := 0) hx hb dX11_isHidden_32 li_0 ?_
  refine lv_istore (lv' := [(7, .int (0 : Int32)), (6, .int (1 : Int32)), (5, .int ((r3 &&& r5) &&& (r1 ^^^ (-1 : Int32)))), (4, .int r1), (0, .ref (xx 0)), (1, .int x1), (2, .int x2), (3, .int x3)]) hx hb dX11_isHidden_33 hl (Nat.le_of_ble_eq_true rfl) rfl (fun ls hl => ?_)
  obtain ⟨z21, hz22, h⟩ := bd_ex h
  refine kX11_isHidden_35 K F xx σxx x1 x2 x3 r1 ((r3 &&& r5) &&& (r1 ^^^ (-1 : Int32))) (fun H locs ls hP hD hS hl => ?_) F (1 : Int32) (0 : Int32) _ _ _ hP hD hS (lv_sub hl [4, 5, 6, 7, 3, 2, 1, 0] rfl) hz22
  refine lv_iload hx hb dX11_isHidden_135 (lv_at hl 6 rfl) ?_
  obtain ⟨ck23, h⟩ := ck h
  cases h
  exact rt_z K (Classical.not_not.mp ck23) hP hD hS dX11_isHidden_137
def gbX11_hide_12 (F : Nat) (σxx : ST) (v1 : Int32) (rc : Int32 → Option (Nat × Int32)) (v2 : Int32) : Option (Nat × Int32) :=
  if (60 : Int32) ≤ v2 then
    some ((57 : Nat), v2)
  else
    (fX11_isTaken F σxx (v2 - v2 / (10 : Int32) * (10 : Int32)) (v2 / (10 : Int32))).bind fun r5 =>
    if r5 = 0 then
      (fX11_isHidden F σxx v1 (v2 - v2 / (10 : Int32) * (10 : Int32)) (v2 / (10 : Int32))).bind fun r8 =>
      if r8 = 0 then
        rc (v2 + 1)
      else
        some ((49 : Nat), v2)
    else
      rc (v2 + 1)
def gX11_hide_12 (F : Nat) (σxx : ST) (v1 : Int32) : Nat → Int32 → Option (Nat × Int32)
  | 0, _ => none
  | n + 1, v2 => gbX11_hide_12 F σxx v1 (gX11_hide_12 F σxx v1 n) v2
set_option maxHeartbeats 4000000 in
set_option maxRecDepth 100000 in
theorem kX11_hide_12 {p : Program} {l : Launch} {e : Env} {s : State} {m : MethodId} {args : Array Value} {below : List Frame} {meth : Method} {c : Code} {A : Nat → Prop} {Q : State → Prop} {G : GP} (K : Cx p s m meth c G cX11_hide RX11 3 (some .int) args A) (F : Nat) (xx : Nat → Nat) (σxx : ST) (v1 : Int32) {z : Nat × Int32} (kk49 : z.1 = 49 → ∀ (H : Heap) (locs : List Loc) (ls : Array Slot), va_P G.1 vwCl (List.flatten [wX G xx σxx]) H → va_D A (List.flatten [wX G xx σxx]) → va_S A s.heap H locs → lv_has ls 3 [(0, .ref (xx 0)), (1, .int v1), (2, .int z.2)] → W p l e (RM 6) s m args below meth c H locs 0 0 Q (F0 m 49 ls [])) (kk57 : z.1 = 57 → ∀ (H : Heap) (locs : List Loc) (ls : Array Slot), va_P G.1 vwCl (List.flatten [wX G xx σxx]) H → va_D A (List.flatten [wX G xx σxx]) → va_S A s.heap H locs → lv_has ls 3 [(0, .ref (xx 0)), (1, .int v1), (2, .int z.2)] → W p l e (RM 6) s m args below meth c H locs 0 0 Q (F0 m 57 ls [])) :
    ∀ (n : Nat) (v2 : Int32) (H : Heap) (locs : List Loc) (ls : Array Slot), va_P G.1 vwCl (List.flatten [wX G xx σxx]) H → va_D A (List.flatten [wX G xx σxx]) → va_S A s.heap H locs → lv_has ls 3 [(0, .ref (xx 0)), (1, .int v1), (2, .int v2)] → gX11_hide_12 F σxx v1 n v2 = some z → W p l e (RM 6) s m args below meth c H locs 0 0 Q (F0 m 12 ls []) := by
  obtain ⟨hx, hb, hr, hml, hts, hown, hlocks, hA, hG⟩ := id K
  intro n
  induction n with
  | zero =>
    intro v2 H locs ls hP hD hS hl h
    have h : none = some z := h
    cases h
  | succ n ih =>
    intro v2 H locs ls hP hD hS hl h
    have h : gbX11_hide_12 F σxx v1 (gX11_hide_12 F σxx v1 n) v2 = some z := h
    unfold gbX11_hide_12 at h
    refine lv_iload_n hx hb dX11_hide_12 rfl (lv_at hl 2 rfl) ?_
    refine lv_bipush (v := 60) hx hb dX11_hide_13 lb_60 ?_
    refine lv_icmp_ge (tgt := 57) hx hb dX11_hide_15 (by decide) (fun c4 => ?_) (fun c4 => ?_)
    · have h := if_t c4 h
      cases h
      exact kk57 rfl _ _ _ hP hD hS (lv_sub hl [0, 1, 2] rfl)
    · have h := if_f c4 h
      refine lv_aload_n hx hb dX11_hide_18 rfl (lv_at hl 0 rfl) ?_
      refine lv_iload_n hx hb dX11_hide_19 rfl (lv_at hl 2 rfl) ?_
      refine lv_bipush (v := 10) hx hb dX11_hide_20 lb_10 ?_
      refine lv_irem hx hb dX11_hide_22 (by decide) ?_
      refine lv_iload_n hx hb dX11_hide_23 rfl (lv_at hl 2 rfl) ?_
      refine lv_bipush (v := 10) hx hb dX11_hide_24 lb_10 ?_
      refine lv_idiv hx hb dX11_hide_26 (by decide) ?_
      obtain ⟨r5, hc6, h⟩ := bd_ex h
      refine sl_V (q0 := 0) (ci := 11) (C := RX11) K (mX11_isTaken l G F xx σxx (v2 - v2 / (10 : Int32) * (10 : Int32)) (v2 / (10 : Int32)) hc6) tw_5_65 tw_1_12 tw_5_64 tw_0_10 tw_5_62 cdX11_isTaken ⟨Nat.le_of_ble_eq_true rfl, Nat.le_of_ble_eq_true rfl⟩ hP hD hS [0] rfl rfl rfl rfl rfl rfl rfl hl.1 (Nat.le_of_ble_eq_true rfl) ⟨Nat.zero_le _, Nat.zero_le _⟩ dX11_hide_27 (fun H locs hP hD hS => ?_)
      have hP : va_P G.1 vwCl (List.flatten [wX G xx σxx]) H := hP
      have hD : va_D A (List.flatten [wX G xx σxx]) := hD
      refine lv_if_ne (tgt := 51) hx hb dX11_hide_30 (by decide) (fun c7 => ?_) (fun c7 => ?_)
      · have h := if_f c7 h
        refine lv_iinc (v := v2 + 1) (lv' := [(2, .int (v2 + 1)), (0, .ref (xx 0)), (1, .int v1)]) hx hb dX11_hide_51 hl (k := 2) rfl (by rw [li_1]) (Nat.le_of_ble_eq_true rfl) rfl (fun ls hl => ?_)
        refine lv_goto (tgt := 12) hx hb dX11_hide_54 (by decide) ?_
        exact ih (v2 + 1) _ _ _ hP hD hS (lv_sub hl [1, 2, 0] rfl) h
      · have h := if_t c7 h
        refine lv_aload_n hx hb dX11_hide_33 rfl (lv_at hl 0 rfl) ?_
        refine lv_iload_n hx hb dX11_hide_34 rfl (lv_at hl 1 rfl) ?_
        refine lv_iload_n hx hb dX11_hide_35 rfl (lv_at hl 2 rfl) ?_
        refine lv_bipush (v := 10) hx hb dX11_hide_36 lb_10 ?_
        refine lv_irem hx hb dX11_hide_38 (by decide) ?_
        refine lv_iload_n hx hb dX11_hide_39 rfl (lv_at hl 2 rfl) ?_
        refine lv_bipush (v := 10) hx hb dX11_hide_40 lb_10 ?_
        refine lv_idiv hx hb dX11_hide_42 (by decide) ?_
        obtain ⟨r8, hc9, h⟩ := bd_ex h
        refine sl_V (q0 := 0) (ci := 11) (C := RX11) K (mX11_isHidden l G F xx σxx v1 (v2 - v2 / (10 : Int32) * (10 : Int32)) (v2 / (10 : Int32)) hc9) tw_5_151 tw_1_12 tw_5_150 tw_0_17 tw_5_148 cdX11_isHidden ⟨Nat.le_of_ble_eq_true rfl, Nat.le_of_ble_eq_true rfl⟩ hP hD hS [0] rfl rfl rfl rfl rfl rfl rfl hl.1 (Nat.le_of_ble_eq_true rfl) ⟨Nat.zero_le _, Nat.zero_le _⟩ dX11_hide_43 (fun H locs hP hD hS => ?_)
        have hP : va_P G.1 vwCl (List.flatten [wX G xx σxx]) H := hP
        have hD : va_D A (List.flatten [wX G xx σxx]) := hD
        refine lv_if_eq (tgt := 51) hx hb dX11_hide_46 (by decide) (fun c10 => ?_) (fun c10 => ?_)
        · have h := if_t c10 h
          refine lv_iinc (v := v2 + 1) (lv' := [(2, .int (v2 + 1)), (0, .ref (xx 0)), (1, .int v1)]) hx hb dX11_hide_51 hl (k := 2) rfl (by rw [li_1]) (Nat.le_of_ble_eq_true rfl) rfl (fun ls hl => ?_)
          refine lv_goto (tgt := 12) hx hb dX11_hide_54 (by decide) ?_
          exact ih (v2 + 1) _ _ _ hP hD hS (lv_sub hl [1, 2, 0] rfl) h
        · have h := if_f c10 h
          cases h
          exact kk49 rfl _ _ _ hP hD hS (lv_sub hl [0, 1, 2] rfl)
def fX11_hide (F : Nat) (σxx : ST) (x1 : Int32) : Option (Int32) :=
  (fX11_isMinute F x1).bind fun r1 =>
  if r1 = 0 then
    some (-2 : Int32)
  else
    (gX11_hide_12 F σxx x1 F (0 : Int32)).bind fun z11 =>
      if z11.1 = 49 then
        some z11.2
      else
        some (-9 : Int32)
theorem cdX11_hide : CallD yX11_hide 1 := by decide +kernel
set_option maxHeartbeats 4000000 in
set_option maxRecDepth 100000 in
theorem mX11_hide (l : Launch) (G : GP) (F : Nat) (xx : Nat → Nat) (σxx : ST) (x1 : Int32) {r : Int32} (h : fX11_hide F σxx x1 = some r) : CC l G yX11_hide cX11_hide 3 (some .int) 6 [.ref (xx 0), .int x1] (List.flatten [wX G xx σxx]) (List.flatten [wX G xx σxx]) (some (.int r)) := by
  refine CC.of (by decide) (Nat.le_of_ble_eq_true rfl) ?_
  intro p e s m below meth c A K hP hD hS ls hl
  obtain ⟨hx, hb, hr, hml, hts, hown, hlocks, hA, hG⟩ := id K
  have hl : lv_has ls 3 [(0, .ref (xx 0)), (1, .int x1)] := hl
  unfold fX11_hide at h
  refine lv_iload_n hx hb dX11_hide_0 rfl (lv_at hl 1 rfl) ?_
  obtain ⟨r1, hc2, h⟩ := bd_ex h
  refine sl_S K (mX11_isMinute l G F x1 hc2) tw_5_91 tw_1_12 tw_5_90 tw_5_89 cdX11_isMinute ⟨Nat.le_of_ble_eq_true rfl, Nat.le_of_ble_eq_true rfl⟩ hP hD hS [] rfl rfl rfl rfl hl.1 (Nat.le_of_ble_eq_true rfl) ⟨Nat.zero_le _, Nat.zero_le _⟩ dX11_hide_1 (fun H locs hP hD hS => ?_)
  have hP : va_P G.1 vwCl (List.flatten [wX G xx σxx]) H := hP
  have hD : va_D A (List.flatten [wX G xx σxx]) := hD
  refine lv_if_ne (tgt := 10) hx hb dX11_hide_4 (by decide) (fun c3 => ?_) (fun c3 => ?_)
  · have h := if_f c3 h
    refine lv_iconst (v := 0) hx hb dX11_hide_10 li_0 ?_
    refine lv_istore_n (lv' := [(2, .int (0 : Int32)), (0, .ref (xx 0)), (1, .int x1)]) hx hb dX11_hide_11 rfl hl (Nat.le_of_ble_eq_true rfl) rfl (fun ls hl => ?_)
    obtain ⟨z11, hz12, h⟩ := bd_ex h
    refine kX11_hide_12 K F xx σxx x1 (fun ht H locs ls hP hD hS hl => ?_) (fun ht H locs ls hP hD hS hl => ?_) F (0 : Int32) _ _ _ hP hD hS (lv_sub hl [1, 2, 0] rfl) hz12
    · have h := if_t ht h
      refine lv_iload_n hx hb dX11_hide_49 rfl (lv_at hl 2 rfl) ?_
      cases h
      exact rt_i K hP hD hS dX11_hide_50
    · have h := if_f (by rw [ht]; decide) h
      refine lv_bipush (v := -9) hx hb dX11_hide_57 lb_m9 ?_
      cases h
      exact rt_i K hP hD hS dX11_hide_59
  · have h := if_t c3 h
    refine lv_bipush (v := -2) hx hb dX11_hide_7 lb_m2 ?_
    cases h
    exact rt_i K hP hD hS dX11_hide_9
def fX11_sight (F : Nat) (σxx : ST) (x1 : Int32) (x2 : Int32) : Option (Int32 × ST) :=
  (fX11_isMinute F x1).bind fun r1 =>
  if r1 = 0 then
    some ((-2 : Int32), σxx)
  else
    (fX11_in F x2.toInt64 (0 : Int64) (1023 : Int64)).bind fun r4 =>
    if r4 = 0 then
      some ((-2 : Int32), σxx)
    else
      if (σxx.1 23) = (6 : Int32) then
        some ((-4 : Int32), σxx)
      else
        if (σxx.1 23) < 0 ∨ 6 ≤ (σxx.1 23).toNatClampNeg then none else
        nm (sA σxx 24 (σxx.1 23).toNatClampNeg x1) fun (s9 : ST) =>
        if (s9.1 23) < 0 ∨ 6 ≤ (s9.1 23).toNatClampNeg then none else
        nm (sA s9 25 (s9.1 23).toNatClampNeg x2) fun (s12 : ST) =>
        nm (sI s12 23 ((s12.1 23) + (1 : Int32))) fun (s14 : ST) =>
        some (s14.1 23, s14)
theorem cdX11_sight : CallD yX11_sight 2 := by decide +kernel
set_option maxHeartbeats 4000000 in
set_option maxRecDepth 100000 in
theorem mX11_sight (l : Launch) (G : GP) (F : Nat) (xx : Nat → Nat) (σxx : ST) (x1 : Int32) (x2 : Int32) {r : Int32 × ST} (h : fX11_sight F σxx x1 x2 = some r) : CC l G yX11_sight cX11_sight 3 (some .int) 3 [.ref (xx 0), .int x1, .int x2] (List.flatten [wX G xx σxx]) (List.flatten [wX G xx r.2]) (some (.int r.1)) := by
  refine CC.of (by decide) (Nat.le_of_ble_eq_true rfl) ?_
  intro p e s m below meth c A K hP hD hS ls hl
  obtain ⟨hx, hb, hr, hml, hts, hown, hlocks, hA, hG⟩ := id K
  have hl : lv_has ls 3 [(0, .ref (xx 0)), (1, .int x1), (2, .int x2)] := hl
  unfold fX11_sight at h
  refine lv_iload_n hx hb dX11_sight_0 rfl (lv_at hl 1 rfl) ?_
  obtain ⟨r1, hc2, h⟩ := bd_ex h
  refine sl_S K (mX11_isMinute l G F x1 hc2) tw_5_91 tw_1_12 tw_5_90 tw_5_89 cdX11_isMinute ⟨Nat.le_of_ble_eq_true rfl, Nat.le_of_ble_eq_true rfl⟩ hP hD hS [] rfl rfl rfl rfl hl.1 (Nat.le_of_ble_eq_true rfl) ⟨Nat.zero_le _, Nat.zero_le _⟩ dX11_sight_1 (fun H locs hP hD hS => ?_)
  have hP : va_P G.1 vwCl (List.flatten [wX G xx σxx]) H := hP
  have hD : va_D A (List.flatten [wX G xx σxx]) := hD
  refine lv_if_eq (tgt := 19) hx hb dX11_sight_4 (by decide) (fun c3 => ?_) (fun c3 => ?_)
  · have h := if_t c3 h
    refine lv_bipush (v := -2) hx hb dX11_sight_19 lb_m2 ?_
    cases h
    exact rt_i K hP hD hS dX11_sight_21
  · have h := if_f c3 h
    refine lv_iload_n hx hb dX11_sight_7 rfl (lv_at hl 2 rfl) ?_
    refine lv_i2l (v := x2.toInt64) hx hb dX11_sight_8 rfl ?_
    refine lv_lconst (v := 0) hx hb dX11_sight_9 ll_0 ?_
    refine lv_ldc2 (v := 1023) hx hb hown (hts _ tw_5_156) dX11_sight_10 ?_
    obtain ⟨r4, hc5, h⟩ := bd_ex h
    refine sl_S K (mX11_in l G F x2.toInt64 (0 : Int64) (1023 : Int64) hc5) tw_4_217 tw_1_12 tw_4_216 tw_4_215 cdX11_in ⟨Nat.le_of_ble_eq_true rfl, Nat.le_of_ble_eq_true rfl⟩ hP hD hS [] rfl rfl rfl rfl hl.1 (Nat.le_of_ble_eq_true rfl) ⟨Nat.zero_le _, Nat.zero_le _⟩ dX11_sight_13 (fun H locs hP hD hS => ?_)
    have hP : va_P G.1 vwCl (List.flatten [wX G xx σxx]) H := hP
    have hD : va_D A (List.flatten [wX G xx σxx]) := hD
    refine lv_if_ne (tgt := 22) hx hb dX11_sight_16 (by decide) (fun c6 => ?_) (fun c6 => ?_)
    · have h := if_f c6 h
      refine lv_aload_n hx hb dX11_sight_22 rfl (lv_at hl 0 rfl) ?_
      refine va_get (D := G.1) (cl := vwCl) (tys := tysG G) (ci := 11) (v := .int (σxx.1 23)) (C := RX11) (T := TX11) (N := 37) hx hb hts iX11 hown hG.1 hP 0 rfl rfl 23 (Nat.le_of_ble_eq_true rfl) (hts _ tw_4_120) (fun _ h9 => h9) rfl dX11_sight_23 ?_
      refine lv_bipush (v := 6) hx hb dX11_sight_26 lb_6 ?_
      refine lv_icmp_ne (tgt := 34) hx hb dX11_sight_28 (by decide) (fun c7 => ?_) (fun c7 => ?_)
      · have h := if_f c7 h
        refine lv_aload_n hx hb dX11_sight_34 rfl (lv_at hl 0 rfl) ?_
        refine va_get (D := G.1) (cl := vwCl) (tys := tysG G) (ci := 11) (v := .ref (xx 25)) (C := RX11) (T := TX11) (N := 37) hx hb hts iX11 hown hG.1 hP 0 rfl rfl 24 (Nat.le_of_ble_eq_true rfl) (hts _ tw_4_121) (fun _ h9 => h9) rfl dX11_sight_35 ?_
        refine lv_aload_n hx hb dX11_sight_38 rfl (lv_at hl 0 rfl) ?_
        refine va_get (D := G.1) (cl := vwCl) (tys := tysG G) (ci := 11) (v := .int (σxx.1 23)) (C := RX11) (T := TX11) (N := 37) hx hb hts iX11 hown hG.1 hP 0 rfl rfl 23 (Nat.le_of_ble_eq_true rfl) (hts _ tw_4_120) (fun _ h9 => h9) rfl dX11_sight_39 ?_
        refine lv_iload_n hx hb dX11_sight_42 rfl (lv_at hl 1 rfl) ?_
        obtain ⟨ck8, h⟩ := ck h
        obtain ⟨s9, e10, h⟩ := nm_ex h
        refine va_iast hx hb hG.1 hP hD hS 12 0 rfl rfl ck8 dX11_sight_43 (fun H locs hP hD hS => ?_)
        have hP : va_P G.1 vwCl (List.flatten [wX G xx s9]) H := by rw [e10]; exact hP
        have hD : va_D A (List.flatten [wX G xx s9]) := by rw [e10]; exact hD
        refine lv_aload_n hx hb dX11_sight_44 rfl (lv_at hl 0 rfl) ?_
        refine va_get (D := G.1) (cl := vwCl) (tys := tysG G) (ci := 11) (v := .ref (xx 26)) (C := RX11) (T := TX11) (N := 37) hx hb hts iX11 hown hG.1 hP 0 rfl rfl 25 (Nat.le_of_ble_eq_true rfl) (hts _ tw_4_122) (fun _ h9 => h9) rfl dX11_sight_45 ?_
        refine lv_aload_n hx hb dX11_sight_48 rfl (lv_at hl 0 rfl) ?_
        refine va_get (D := G.1) (cl := vwCl) (tys := tysG G) (ci := 11) (v := .int (s9.1 23)) (C := RX11) (T := TX11) (N := 37) hx hb hts iX11 hown hG.1 hP 0 rfl rfl 23 (Nat.le_of_ble_eq_true rfl) (hts _ tw_4_120) (fun _ h9 => h9) rfl dX11_sight_49 ?_
        refine lv_iload_n hx hb dX11_sight_52 rfl (lv_at hl 2 rfl) ?_
        obtain ⟨ck11, h⟩ := ck h
        obtain ⟨s12, e13, h⟩ := nm_ex h
        refine va_iast hx hb hG.1 hP hD hS 13 0 rfl rfl ck11 dX11_sight_53 (fun H locs hP hD hS => ?_)
        have hP : va_P G.1 vwCl (List.flatten [wX G xx s12]) H := by rw [e13]; exact hP
        have hD : va_D A (List.flatten [wX G xx s12]) := by rw [e13]; exact hD
        refine lv_aload_n hx hb dX11_sight_54 rfl (lv_at hl 0 rfl) ?_
        refine lv_dup hx hb dX11_sight_55 rfl ?_
        refine va_get (D := G.1) (cl := vwCl) (tys := tysG G) (ci := 11) (v := .int (s12.1 23)) (C := RX11) (T := TX11) (N := 37) hx hb hts iX11 hown hG.1 hP 0 rfl rfl 23 (Nat.le_of_ble_eq_true rfl) (hts _ tw_4_120) (fun _ h9 => h9) rfl dX11_sight_56 ?_
        refine lv_iconst (v := 1) hx hb dX11_sight_59 li_1 ?_
        refine lv_iadd hx hb dX11_sight_60 ?_
        obtain ⟨s14, e15, h⟩ := nm_ex h
        refine va_put (D := G.1) (cl := vwCl) (tys := tysG G) (ci := 11) (v := .int ((s12.1 23) + (1 : Int32))) (ty := .int) (C := RX11) (T := TX11) (N := 37) hx hb hts iX11 tyX11 tyX11_ok nmX11 hown hG.1 hP hD hS 0 rfl rfl 23 (Nat.le_of_ble_eq_true rfl) (hts _ tw_4_120) (fun _ h9 => h9) rfl (by decide +kernel) rfl rfl (Nat.le_of_ble_eq_true rfl) dX11_sight_61 (fun H locs hP hD hS => ?_)
        have hP : va_P G.1 vwCl (List.flatten [wX G xx s14]) H := by rw [e15]; exact hP
        have hD : va_D A (List.flatten [wX G xx s14]) := by rw [e15]; exact hD
        refine lv_aload_n hx hb dX11_sight_64 rfl (lv_at hl 0 rfl) ?_
        refine va_get (D := G.1) (cl := vwCl) (tys := tysG G) (ci := 11) (v := .int (s14.1 23)) (C := RX11) (T := TX11) (N := 37) hx hb hts iX11 hown hG.1 hP 0 rfl rfl 23 (Nat.le_of_ble_eq_true rfl) (hts _ tw_4_120) (fun _ h9 => h9) rfl dX11_sight_65 ?_
        cases h
        exact rt_i K hP hD hS dX11_sight_68
      · have h := if_t c7 h
        refine lv_bipush (v := -4) hx hb dX11_sight_31 lb_m4 ?_
        cases h
        exact rt_i K hP hD hS dX11_sight_33
    · have h := if_t c6 h
      refine lv_bipush (v := -2) hx hb dX11_sight_19 lb_m2 ?_
      cases h
      exact rt_i K hP hD hS dX11_sight_21
def fX11_unsee (F : Nat) (σxx : ST)  : Option (Int32 × ST) :=
  nm (sI σxx 23 (0 : Int32)) fun (s1 : ST) =>
  some (σxx.1 23, s1)
theorem cdX11_unsee : CallD yX11_unsee 0 := by decide +kernel
set_option maxHeartbeats 4000000 in
set_option maxRecDepth 100000 in
theorem mX11_unsee (l : Launch) (G : GP) (F : Nat) (xx : Nat → Nat) (σxx : ST)  {r : Int32 × ST} (h : fX11_unsee F σxx  = some r) : CC l G yX11_unsee cX11_unsee 2 (some .int) 1 [.ref (xx 0)] (List.flatten [wX G xx σxx]) (List.flatten [wX G xx r.2]) (some (.int r.1)) := by
  refine CC.of (by decide) (Nat.le_of_ble_eq_true rfl) ?_
  intro p e s m below meth c A K hP hD hS ls hl
  obtain ⟨hx, hb, hr, hml, hts, hown, hlocks, hA, hG⟩ := id K
  have hl : lv_has ls 2 [(0, .ref (xx 0))] := hl
  unfold fX11_unsee at h
  refine lv_aload_n hx hb dX11_unsee_0 rfl (lv_at hl 0 rfl) ?_
  refine va_get (D := G.1) (cl := vwCl) (tys := tysG G) (ci := 11) (v := .int (σxx.1 23)) (C := RX11) (T := TX11) (N := 37) hx hb hts iX11 hown hG.1 hP 0 rfl rfl 23 (Nat.le_of_ble_eq_true rfl) (hts _ tw_4_120) (fun _ h9 => h9) rfl dX11_unsee_1 ?_
  refine lv_istore_n (lv' := [(1, .int (σxx.1 23)), (0, .ref (xx 0))]) hx hb dX11_unsee_4 rfl hl (Nat.le_of_ble_eq_true rfl) rfl (fun ls hl => ?_)
  refine lv_aload_n hx hb dX11_unsee_5 rfl (lv_at hl 1 rfl) ?_
  refine lv_iconst (v := 0) hx hb dX11_unsee_6 li_0 ?_
  obtain ⟨s1, e2, h⟩ := nm_ex h
  refine va_put (D := G.1) (cl := vwCl) (tys := tysG G) (ci := 11) (v := .int (0 : Int32)) (ty := .int) (C := RX11) (T := TX11) (N := 37) hx hb hts iX11 tyX11 tyX11_ok nmX11 hown hG.1 hP hD hS 0 rfl rfl 23 (Nat.le_of_ble_eq_true rfl) (hts _ tw_4_120) (fun _ h9 => h9) rfl (by decide +kernel) rfl rfl (Nat.le_of_ble_eq_true rfl) dX11_unsee_7 (fun H locs hP hD hS => ?_)
  have hP : va_P G.1 vwCl (List.flatten [wX G xx s1]) H := by rw [e2]; exact hP
  have hD : va_D A (List.flatten [wX G xx s1]) := by rw [e2]; exact hD
  refine lv_iload_n hx hb dX11_unsee_10 rfl (lv_at hl 0 rfl) ?_
  cases h
  exact rt_i K hP hD hS dX11_unsee_11
