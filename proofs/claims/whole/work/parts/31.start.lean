set_option maxHeartbeats 8000000 in
set_option maxRecDepth 100000 in
theorem lw_Gx {p : Program} {s : State} {m : MethodId} {meth : Method} {c : Code} {b L : Nat} {xs : Nat → Int32} (C0 : lw_At p s m meth c b L xs) : ∃ G : GP, Gx G (fun q : Nat => s.heap.size ≤ q) s := by
  obtain ⟨-, -, -, -, -, hts, -, -, -, hgv⟩ := id C0
  have htB : ∀ w ∈ TB, w.before #[Value.ref b] s = true := fun w hw => hts w (List.mem_filter.mp hw).1
  have hs := flat_of_before _ hgv
  have hA : ∀ a : Nat, a < s.heap.size → ¬ (fun q : Nat => s.heap.size ≤ q) a := fun a h => Nat.not_le.mpr h
  obtain ⟨c0, j0, k0⟩ := u_known (C := RX0) (T := TX0) (N := 7) (n := 7) htB iX0 (htB _ tw_1_155)
  obtain ⟨c1, j1, k1⟩ := u_known (C := RX1) (T := TX1) (N := 4) (n := 4) htB iX1 (htB _ tw_1_58)
  obtain ⟨c2, j2, k2⟩ := u_known (C := RX2) (T := TX2) (N := 2) (n := 2) htB iX2 (htB _ tw_1_52)
  obtain ⟨c3, j3, k3⟩ := u_known (C := RX3) (T := TX3) (N := 8) (n := 8) htB iX3 (htB _ tw_1_227)
  obtain ⟨c4, j4, k4⟩ := u_known (C := RX4) (T := TX4) (N := 6) (n := 6) htB iX4 (htB _ tw_1_89)
  obtain ⟨c5, j5, k5⟩ := u_known (C := RX5) (T := TX5) (N := 5) (n := 5) htB iX5 (htB _ tw_1_46)
  obtain ⟨c6, j6, k6⟩ := u_known (C := RX6) (T := TX6) (N := 4) (n := 4) htB iX6 (htB _ tw_1_184)
  obtain ⟨c7, j7, k7⟩ := u_known (C := RX7) (T := TX7) (N := 3) (n := 3) htB iX7 (htB _ tw_1_207)
  obtain ⟨c8, j8, k8⟩ := u_known (C := RX8) (T := TX8) (N := 3) (n := 3) htB iX8 (htB _ tw_2_20)
  obtain ⟨c9, j9, k9⟩ := u_known (C := RX9) (T := TX9) (N := 2) (n := 2) htB iX9 (htB _ tw_1_29)
  obtain ⟨c10, j10, k10⟩ := u_known (C := RX10) (T := TX10) (N := 8) (n := 8) htB iX10 (htB _ tw_1_21)
  obtain ⟨c11, j11, k11⟩ := u_known (C := RX11) (T := TX11) (N := 37) (n := 37) htB iX11 (htB _ tw_4_92)
  obtain ⟨aI, kAI, compI, fI, gI, hI⟩ := Cond.arrayClass_spec (htB _ tw_1_87)
  obtain ⟨aJ, kAJ, compJ, fJ, gJ, hJ⟩ := Cond.arrayClass_spec (htB _ tw_2_17)
  obtain ⟨aZ, kAZ, compZ, fZ, gZ, hZ⟩ := Cond.arrayClass_spec (htB _ tw_4_209)
  obtain ⟨aB, kAB, compB, fB, gB, hB⟩ := Cond.arrayClass_spec (htB _ tw_1_44)
  have hAA : va_AOA .int s := hts (Cond.arrayOver (.array .int)) (tb_1 95 rfl)
  have hAO : va_AO RX8 s := hts (Cond.arrayOver (.object RX8)) (tb_2 19 rfl)
  obtain ⟨compA, aA, kA, fA0, gA, hkA, fA⟩ := Cond.arrayOver_specA hAA
  obtain ⟨compO, aO, kO, fO0, -, gO, hkO, fO⟩ := Cond.arrayOver_spec hAO
  obtain ⟨tH, eH, TH⟩ := va_Tof (tm := .static "ShadowCount" "HEIGHT_OF_KIND" "[I") (ty := .int) (N := 6) (f := hgtV) (A := fun q : Nat => s.heap.size ≤ q) (by decide) (hs _ (by decide +kernel)) (va_eqt (hs _ (by decide +kernel))) (fun j hj => by
    rcases (show j = 0 ∨ j = 1 ∨ j = 2 ∨ j = 3 ∨ j = 4 ∨ j = 5 by omega) with rfl | rfl | rfl | rfl | rfl | rfl
    · exact va_eqt (z := 6) (hs (Cond.eq (.elem (.static "ShadowCount" "HEIGHT_OF_KIND" "[I") (.int 0)) (.int 6)) (by decide +kernel))
    · exact va_eqt (z := 3) (hs (Cond.eq (.elem (.static "ShadowCount" "HEIGHT_OF_KIND" "[I") (.int 1)) (.int 3)) (by decide +kernel))
    · exact va_eqt (z := 3) (hs (Cond.eq (.elem (.static "ShadowCount" "HEIGHT_OF_KIND" "[I") (.int 2)) (.int 3)) (by decide +kernel))
    · exact va_eqt (z := 6) (hs (Cond.eq (.elem (.static "ShadowCount" "HEIGHT_OF_KIND" "[I") (.int 3)) (.int 6)) (by decide +kernel))
    · exact va_eqt (z := 4) (hs (Cond.eq (.elem (.static "ShadowCount" "HEIGHT_OF_KIND" "[I") (.int 4)) (.int 4)) (by decide +kernel))
    · exact va_eqt (z := 6) (hs (Cond.eq (.elem (.static "ShadowCount" "HEIGHT_OF_KIND" "[I") (.int 5)) (.int 6)) (by decide +kernel))) hA
  obtain ⟨tE, eE, TE⟩ := va_Tof (tm := .static "ShadowCount" "HEADS_OF_KIND" "[I") (ty := .int) (N := 6) (f := hdsV) (A := fun q : Nat => s.heap.size ≤ q) (by decide) (hs _ (by decide +kernel)) (va_eqt (hs _ (by decide +kernel))) (fun j hj => by
    rcases (show j = 0 ∨ j = 1 ∨ j = 2 ∨ j = 3 ∨ j = 4 ∨ j = 5 by omega) with rfl | rfl | rfl | rfl | rfl | rfl
    · exact va_eqt (z := 1) (hs (Cond.eq (.elem (.static "ShadowCount" "HEADS_OF_KIND" "[I") (.int 0)) (.int 1)) (by decide +kernel))
    · exact va_eqt (z := 1) (hs (Cond.eq (.elem (.static "ShadowCount" "HEADS_OF_KIND" "[I") (.int 1)) (.int 1)) (by decide +kernel))
    · exact va_eqt (z := 1) (hs (Cond.eq (.elem (.static "ShadowCount" "HEADS_OF_KIND" "[I") (.int 2)) (.int 1)) (by decide +kernel))
    · exact va_eqt (z := 0) (hs (Cond.eq (.elem (.static "ShadowCount" "HEADS_OF_KIND" "[I") (.int 3)) (.int 0)) (by decide +kernel))
    · exact va_eqt (z := 2) (hs (Cond.eq (.elem (.static "ShadowCount" "HEADS_OF_KIND" "[I") (.int 4)) (.int 2)) (by decide +kernel))
    · exact va_eqt (z := 2) (hs (Cond.eq (.elem (.static "ShadowCount" "HEADS_OF_KIND" "[I") (.int 5)) (.int 2)) (by decide +kernel))) hA
  have ZH : va_Z RX10 "HEIGHT_OF_KIND" "[I" (.ref tH) (fun q : Nat => s.heap.size ≤ q) s s.heap := va_Zref (hts (Cond.laysStatic "ShadowCount" "HEIGHT_OF_KIND" "[I") (tb_3 56 rfl)) (htB _ tw_1_1) eH hA
  have ZE : va_Z RX10 "HEADS_OF_KIND" "[I" (.ref tE) (fun q : Nat => s.heap.size ≤ q) s s.heap := va_Zref (hts (Cond.laysStatic "ShadowCount" "HEADS_OF_KIND" "[I") (tb_3 62 rfl)) (htB _ tw_1_1) eE hA
  have ZC : va_Z RJ0 "COMPACT_STRINGS" "Z" (.int 1) (fun q : Nat => s.heap.size ≤ q) s s.heap := va_Zof (hts (Cond.laysStatic "java/lang/String" "COMPACT_STRINGS" "Z") (tb_2 116 rfl)) (htB _ tw_1_13) (va_eqt (hs _ (by decide +kernel))) hA
  obtain ⟨adK, adV, hVS, hVe⟩ := vk_Sof (args := #[Value.ref b]) (s := s) (N := 1) (tm := fun _ => .string "ShadowCount$Reader" 52) (len := [6]) (byt := kindB) (A := fun q : Nat => s.heap.size ≤ q) (fun i hi => by rw [show i = 0 by omega]; decide) (fun i hi => hs _ (by decide +kernel)) (fun i hi => hs _ (by decide +kernel)) (fun i hi => hs _ (by decide +kernel)) (fun i hi => by rw [show i = 0 by omega]; exact hs _ (by decide +kernel)) (fun i hi j hj => by
    have e0 : i = 0 := by omega
    subst e0
    rcases (show j = 0 ∨ j = 1 ∨ j = 2 ∨ j = 3 ∨ j = 4 ∨ j = 5 by have : j < 6 := hj; omega) with rfl | rfl | rfl | rfl | rfl | rfl
    · exact hs _ (by decide +kernel)
    · exact hs _ (by decide +kernel)
    · exact hs _ (by decide +kernel)
    · exact hs _ (by decide +kernel)
    · exact hs _ (by decide +kernel)
    · exact hs _ (by decide +kernel)) (fun i j hi hj hij => absurd (show i = j by omega) hij) hA
  have hR : vk_R RX5 52 "mcksat" (adK 0) s := vk_R.of (hts (Cond.stringRef "ShadowCount$Reader" 52 "mcksat") (tb_2 102 rfl)) (hVe 0 (by decide))
  refine ⟨((fun k => match k with | 0 => c0 | 1 => c1 | 2 => c2 | 3 => c3 | 4 => c4 | 5 => c5 | 6 => c6 | 7 => c7 | 8 => c8 | 9 => c9 | 10 => c10 | _ => c11, fun k => match k with | 0 => j0 | 1 => j1 | 2 => j2 | 3 => j3 | 4 => j4 | 5 => j5 | 6 => j6 | 7 => j7 | 8 => j8 | 9 => j9 | 10 => j10 | _ => j11), fun k => match k with | 0 => aI | 1 => aJ | 2 => aZ | 3 => aB | 4 => aA | _ => aO, fun k => match k with | 0 => tH | 1 => tE | 2 => adK 0 | _ => adV 0), ⟨fun k q hq => ?_, fun k q hq => ?_⟩, fun w hw => ?_, ⟨ZH, TH⟩, ⟨ZE, TE⟩, ZC, ?_, hR, hAO, hAA⟩
  · match k, hq with
    | 0, hq => cases hq; exact k0
    | 1, hq => cases hq; exact k1
    | 2, hq => cases hq; exact k2
    | 3, hq => cases hq; exact k3
    | 4, hq => cases hq; exact k4
    | 5, hq => cases hq; exact k5
    | 6, hq => cases hq; exact k6
    | 7, hq => cases hq; exact k7
    | 8, hq => cases hq; exact k8
    | 9, hq => cases hq; exact k9
    | 10, hq => cases hq; exact k10
    | 11, hq => cases hq; exact k11
    | k + 12, hq => simp [vwCl] at hq
  · match k, hq with
    | 0, hq => cases hq; exact ⟨fun n z => ⟨fun k h => (by cases h), kAI, gI, compI, hI⟩, fI⟩
    | 1, hq => cases hq; exact ⟨fun n z => ⟨fun k h => (by cases h), kAJ, gJ, compJ, hJ⟩, fJ⟩
    | 2, hq => cases hq; exact ⟨fun n z => ⟨fun k h => (by cases h), kAZ, gZ, compZ, hZ⟩, fZ⟩
    | 3, hq => cases hq; exact ⟨fun n z => ⟨fun k h => (by cases h), kAB, gB, compB, hB⟩, fB⟩
    | 4, hq => cases hq; exact ⟨fun n z => ⟨fun k h => (by cases h), kA, gA, compA, hkA⟩, fA⟩
    | 5, hq => cases hq; exact ⟨fun n z => ⟨fun k h => (by cases h), kO, gO, compO, hkO⟩, kO, compO, gO, hkO, fO0, fO⟩
    | k + 6, hq => simp [tysG] at hq
  · have h1 := List.mem_filter.mp hw
    have h3 : w.onTables = true := by
      have h2 := h1.2
      cases w <;> first | rfl | exact absurd h2 (by simp [isNest])
    exact va_Nw.of h3 (hts w h1.1)
  · exact ⟨fun i hi => by rw [show i = 0 by omega]; exact hVS.1 0 (by decide), fun i j hi hj _ => by omega⟩
set_option maxHeartbeats 8000000 in
set_option maxRecDepth 100000 in
theorem whole_open {p : Program} {e : Env} {s : State} {m : MethodId} {below : List Frame} {meth : Method} {c : Code} (l : Launch) {b L : Nat} {xs : Nat → Int32} (hL : L ≤ 2560) (C0 : lw_At p s m meth c b L xs) {I : SS → Prop} (h0 : I (fun _ => z0)) (T : Sts I) : W p l e room_1 s m #[Value.ref b] below meth c s.heap [] 0 0 (lw_Z below #[Value.ref b] s) (entryFrame m ([Value.ref b] : List Value).toArray 4) := by
  obtain ⟨G, hG⟩ := lw_Gx C0
  obtain ⟨hx, hb, hr, hml, hown, hts0, hX, hbl, hlocks, hgv⟩ := id C0
  have hA : ∀ q : Nat, s.heap.size ≤ q → (fun q : Nat => s.heap.size ≤ q) q := fun _ h => h
  have hts : ∀ w ∈ TB, w.before #[Value.ref b] s = true := fun w hw => hts0 w (List.mem_filter.mp hw).1
  have K : Cx p s m meth c G code RL 4 ret #[Value.ref b] (fun q : Nat => s.heap.size ≤ q) := ⟨hx, hb, hr, hml, hts, hown, hlocks, hA, hG⟩
  have hS : va_S (fun q : Nat => s.heap.size ≤ q) s.heap s.heap [] := va_S.rf
  have hP : va_P G.1 vwCl (List.flatten ([] : List va_W)) s.heap := fun k q h => by simp at h
  have hD : va_D (fun q : Nat => s.heap.size ≤ q) (List.flatten ([] : List va_W)) := ⟨fun i j p q h => by simp at h, fun k q h => by simp at h⟩
  have hl := lv_entry ([.ref b]) (n := 4) (Nat.le_of_ble_eq_true rfl)
  rw [lg_entry_eq]
  generalize (lg_sl ([.ref b]) ++ List.replicate (4 - (lg_sl ([.ref b])).length) Slot.unset).toArray = ls at hl ⊢
  have hl : lv_has ls 4 [(0, .ref b)] := hl
  refine va_new (ci := 10) (fs := [.null, .null, .null, .null, .null, .null, .null, .null]) (C := RX10) (T := TX10) (N := 8) hx hb hts iX10 tyX10 tyX10_ok hown (hts _ tw_1_20) (hts _ tw_1_21) (hts _ tw_1_1) hG.1 hP hD hS hA rfl (fun j hj => by rcases (show j = 0 ∨ j = 1 ∨ j = 2 ∨ j = 3 ∨ j = 4 ∨ j = 5 ∨ j = 6 ∨ j = 7 by omega) with rfl | rfl | rfl | rfl | rfl | rfl | rfl | rfl <;> rfl) (Nat.le_of_ble_eq_true rfl) (Nat.le_of_ble_eq_true rfl) dL_law_0 (fun q1 H hP hD hS => ?_)
  have hP : va_P G.1 vwCl (List.flatten [[(q1, .inr (10, [.null, .null, .null, .null, .null, .null, .null, .null]))]]) H := fl_snoc hP
  have hD : va_D (fun q : Nat => s.heap.size ≤ q) (List.flatten [[(q1, .inr (10, [.null, .null, .null, .null, .null, .null, .null, .null]))]]) := fl_snocD hD
  refine lv_dup hx hb dL_law_3 rfl ?_
  refine ln_I (pre := ([] : List va_W)) K (nX10 l G q1) tw_1_24 tw_1_1 tw_1_23 tw_1_22 rfl cdX10_init ⟨Nat.le_of_ble_eq_true rfl, Nat.le_of_ble_eq_true rfl⟩ hP hD hS hl.1 (Nat.le_of_ble_eq_true rfl) ⟨Nat.le_of_ble_eq_true rfl, Nat.le_of_ble_eq_true rfl⟩ dL_law_4 (fun u1 H locs eq1 hP9 hD9 hS9 => ?_)
  clear hP hD hS
  subst eq1
  have hS := hS9
  have hP : va_P G.1 vwCl (List.flatten [wM (u1 0 0) (u1 1 0) (u1 2 0) (u1 6 0) (u1 9 0) (u1 10 0) (u1 11 0) (u1 12 0) (u1 13 0), wT G (u1 1) z0, wE G (u1 2) (u1 3 0) z0, wF (u1 3 0) (u1 4 0) (u1 5 0), wB G (u1 4) z0, wD G (u1 5) z0, wF (u1 6 0) (u1 7 0) (u1 8 0), wB G (u1 7) z0, wD G (u1 8) z0, wA G (u1 9) z0, wR G (u1 10) z0, wS G (u1 11) z0, wP G (u1 12) z0, wZ G (u1 13 0) (u1 14 0) (u1 17 0), wL (u1 14 0) (u1 15 0) (u1 16 0) z0, wB G (u1 15) z0, wS G (u1 16) z0, wL (u1 17 0) (u1 18 0) (u1 19 0) z0, wB G (u1 18) z0, wS G (u1 19) z0]) H := hP9
  have hD : va_D (fun q : Nat => s.heap.size ≤ q) (List.flatten [wM (u1 0 0) (u1 1 0) (u1 2 0) (u1 6 0) (u1 9 0) (u1 10 0) (u1 11 0) (u1 12 0) (u1 13 0), wT G (u1 1) z0, wE G (u1 2) (u1 3 0) z0, wF (u1 3 0) (u1 4 0) (u1 5 0), wB G (u1 4) z0, wD G (u1 5) z0, wF (u1 6 0) (u1 7 0) (u1 8 0), wB G (u1 7) z0, wD G (u1 8) z0, wA G (u1 9) z0, wR G (u1 10) z0, wS G (u1 11) z0, wP G (u1 12) z0, wZ G (u1 13 0) (u1 14 0) (u1 17 0), wL (u1 14 0) (u1 15 0) (u1 16 0) z0, wB G (u1 15) z0, wS G (u1 16) z0, wL (u1 17 0) (u1 18 0) (u1 19 0) z0, wB G (u1 18) z0, wS G (u1 19) z0]) := hD9
  refine lv_astore_n (lv' := [(1, .ref (u1 0 0)), (0, .ref b)]) hx hb dL_law_7 rfl hl (Nat.le_of_ble_eq_true rfl) rfl (fun ls hl => ?_)
  refine va_new (ci := 11) (fs := [.null, .null, .null, .null, .int 0, .int 0, .int 0, .null, .null, .null, .null, .int 0, .int 0, .int 0, .int 0, .null, .int 0, .int 0, .int 0, .int 0, .int 0, .null, .null, .int 0, .null, .null, .null, .int 0, .int 0, .int 0, .int 0, .null, .null, .null, .null, .null, .null]) (C := RX11) (T := TX11) (N := 37) hx hb hts iX11 tyX11 tyX11_ok hown (hts _ tw_4_91) (hts _ tw_4_92) (hts _ tw_1_12) hG.1 hP hD hS hA rfl (fun j hj => by rcases (show j = 0 ∨ j = 1 ∨ j = 2 ∨ j = 3 ∨ j = 4 ∨ j = 5 ∨ j = 6 ∨ j = 7 ∨ j = 8 ∨ j = 9 ∨ j = 10 ∨ j = 11 ∨ j = 12 ∨ j = 13 ∨ j = 14 ∨ j = 15 ∨ j = 16 ∨ j = 17 ∨ j = 18 ∨ j = 19 ∨ j = 20 ∨ j = 21 ∨ j = 22 ∨ j = 23 ∨ j = 24 ∨ j = 25 ∨ j = 26 ∨ j = 27 ∨ j = 28 ∨ j = 29 ∨ j = 30 ∨ j = 31 ∨ j = 32 ∨ j = 33 ∨ j = 34 ∨ j = 35 ∨ j = 36 by omega) with rfl | rfl | rfl | rfl | rfl | rfl | rfl | rfl | rfl | rfl | rfl | rfl | rfl | rfl | rfl | rfl | rfl | rfl | rfl | rfl | rfl | rfl | rfl | rfl | rfl | rfl | rfl | rfl | rfl | rfl | rfl | rfl | rfl | rfl | rfl | rfl | rfl <;> rfl) (Nat.le_of_ble_eq_true rfl) (Nat.le_of_ble_eq_true rfl) dL_law_8 (fun q2 H hP hD hS => ?_)
  have hP : va_P G.1 vwCl (List.flatten [wM (u1 0 0) (u1 1 0) (u1 2 0) (u1 6 0) (u1 9 0) (u1 10 0) (u1 11 0) (u1 12 0) (u1 13 0), wT G (u1 1) z0, wE G (u1 2) (u1 3 0) z0, wF (u1 3 0) (u1 4 0) (u1 5 0), wB G (u1 4) z0, wD G (u1 5) z0, wF (u1 6 0) (u1 7 0) (u1 8 0), wB G (u1 7) z0, wD G (u1 8) z0, wA G (u1 9) z0, wR G (u1 10) z0, wS G (u1 11) z0, wP G (u1 12) z0, wZ G (u1 13 0) (u1 14 0) (u1 17 0), wL (u1 14 0) (u1 15 0) (u1 16 0) z0, wB G (u1 15) z0, wS G (u1 16) z0, wL (u1 17 0) (u1 18 0) (u1 19 0) z0, wB G (u1 18) z0, wS G (u1 19) z0, [(q2, .inr (11, [.null, .null, .null, .null, .int 0, .int 0, .int 0, .null, .null, .null, .null, .int 0, .int 0, .int 0, .int 0, .null, .int 0, .int 0, .int 0, .int 0, .int 0, .null, .null, .int 0, .null, .null, .null, .int 0, .int 0, .int 0, .int 0, .null, .null, .null, .null, .null, .null]))]]) H := fl_snoc hP
  have hD : va_D (fun q : Nat => s.heap.size ≤ q) (List.flatten [wM (u1 0 0) (u1 1 0) (u1 2 0) (u1 6 0) (u1 9 0) (u1 10 0) (u1 11 0) (u1 12 0) (u1 13 0), wT G (u1 1) z0, wE G (u1 2) (u1 3 0) z0, wF (u1 3 0) (u1 4 0) (u1 5 0), wB G (u1 4) z0, wD G (u1 5) z0, wF (u1 6 0) (u1 7 0) (u1 8 0), wB G (u1 7) z0, wD G (u1 8) z0, wA G (u1 9) z0, wR G (u1 10) z0, wS G (u1 11) z0, wP G (u1 12) z0, wZ G (u1 13 0) (u1 14 0) (u1 17 0), wL (u1 14 0) (u1 15 0) (u1 16 0) z0, wB G (u1 15) z0, wS G (u1 16) z0, wL (u1 17 0) (u1 18 0) (u1 19 0) z0, wB G (u1 18) z0, wS G (u1 19) z0, [(q2, .inr (11, [.null, .null, .null, .null, .int 0, .int 0, .int 0, .null, .null, .null, .null, .int 0, .int 0, .int 0, .int 0, .null, .int 0, .int 0, .int 0, .int 0, .int 0, .null, .null, .int 0, .null, .null, .null, .int 0, .int 0, .int 0, .int 0, .null, .null, .null, .null, .null, .null]))]]) := fl_snocD hD
  refine lv_dup hx hb dL_law_11 rfl ?_
  refine ln_I (pre := [wM (u1 0 0) (u1 1 0) (u1 2 0) (u1 6 0) (u1 9 0) (u1 10 0) (u1 11 0) (u1 12 0) (u1 13 0), wT G (u1 1) z0, wE G (u1 2) (u1 3 0) z0, wF (u1 3 0) (u1 4 0) (u1 5 0), wB G (u1 4) z0, wD G (u1 5) z0, wF (u1 6 0) (u1 7 0) (u1 8 0), wB G (u1 7) z0, wD G (u1 8) z0, wA G (u1 9) z0, wR G (u1 10) z0, wS G (u1 11) z0, wP G (u1 12) z0, wZ G (u1 13 0) (u1 14 0) (u1 17 0), wL (u1 14 0) (u1 15 0) (u1 16 0) z0, wB G (u1 15) z0, wS G (u1 16) z0, wL (u1 17 0) (u1 18 0) (u1 19 0) z0, wB G (u1 18) z0, wS G (u1 19) z0]) K (nX11 l G q2) tw_4_95 tw_1_12 tw_4_94 tw_4_93 rfl cdX11_init ⟨Nat.le_of_ble_eq_true rfl, Nat.le_of_ble_eq_true rfl⟩ hP hD hS hl.1 (Nat.le_of_ble_eq_true rfl) ⟨Nat.le_of_ble_eq_true rfl, Nat.le_of_ble_eq_true rfl⟩ dL_law_12 (fun u2 H locs eq2 hP9 hD9 hS9 => ?_)
  clear hP hD hS
  subst eq2
  have hS := hS9
  obtain ⟨u, hu⟩ : ∃ u : AU, u = fun i => if i = 20 then u2 0 else u1 i := ⟨_, rfl⟩
  have hP : va_P G.1 vwCl (List.flatten (lwW G u (fun _ => z0))) H := by rw [hu]; exact hP9
  have hD : va_D (fun q : Nat => s.heap.size ≤ q) (List.flatten (lwW G u (fun _ => z0))) := by rw [hu]; exact hD9
  have eu1 : u1 0 0 = u 0 0 := by rw [hu]; rfl
  have eu2 : u2 0 0 = u 20 0 := by rw [hu]; rfl
  rw [eu1] at hl
  rw [eu2]
  refine lv_astore_n (lv' := [(2, .ref (u 20 0)), (1, .ref (u 0 0)), (0, .ref b)]) hx hb dL_law_15 rfl hl (Nat.le_of_ble_eq_true rfl) rfl (fun ls hl => ?_)
  refine lv_iconst (v := 0) hx hb dL_law_16 li_0 ?_
  refine lv_istore_n (lv' := [(3, .int 0), (2, .ref (u 20 0)), (1, .ref (u 0 0)), (0, .ref b)]) hx hb dL_law_17 rfl hl (Nat.le_of_ble_eq_true rfl) rfl (fun ls hl => ?_)
  exact law_loop hL C0 K u T (L + 6) 0 0 (by omega) (by omega) nI_0.symm (fun _ => z0) h0 H _ hP hD hS ls (lv_sub hl [3, 2, 1, 0] rfl)
