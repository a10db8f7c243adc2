/-! the class: which may stand -/
theorem lL_at (σ : ST) (k i : Nat) (v : Int64) (k' j : Nat) : (sL σ k i v).2.2.2 k' j = if k' = k then (if j = i then v else σ.2.2.2 k j) else σ.2.2.2 k' j := by
  show (if k' = k then vp_updL (σ.2.2.2 k) i v else σ.2.2.2 k') j = _
  by_cases h : k' = k
  · rw [if_pos h, if_pos h]
    rfl
  · rw [if_neg h, if_neg h]
theorem aA_at (σ : ST) (k i : Nat) (v : Int32) (k' j : Nat) : (sA σ k i v).2.1 k' j = if k' = k then (if j = i then v else σ.2.1 k j) else σ.2.1 k' j := by
  show (if k' = k then upd (σ.2.1 k) i v else σ.2.1 k') j = _
  by_cases h : k' = k
  · rw [if_pos h, if_pos h]
    rfl
  · rw [if_neg h, if_neg h]
theorem so_loop {F k x : Nat} {sl : List (Nat × Nat)} {σ : ST} (hv : vS sl) (hs : RS sl (σ.1 2) (σ.2.1 0) (σ.2.1 1)) (hk : k < 6) (hx : x < 10) : ∀ (r n i : Nat) (v : Int64), i + r = sl.length → r < n → gX3_shadowsOf_5 F σ (nI k) (nI x) n v (nI i) = some (pkF (sl.drop i) (fun q => rC (hgtI k) x q.1) v, nI sl.length) := by
  have h6 := hv.1
  intro r
  induction r with
  | zero =>
    intro n i v hi hn
    obtain ⟨m, rfl⟩ : ∃ m, n = m + 1 := ⟨n - 1, by omega⟩
    show gbX3_shadowsOf_5 F σ (nI k) (nI x) _ v (nI i) = _
    unfold gbX3_shadowsOf_5
    rw [hs.1, if_pos (nI_le (by omega) (by omega)), List.drop_eq_nil_of_le (by omega), show i = sl.length by omega]
    rfl
  | succ r ih =>
    intro n i v hi hn
    obtain ⟨m, rfl⟩ : ∃ m, n = m + 1 := ⟨n - 1, by omega⟩
    obtain ⟨q, hq, hqm⟩ := at_get (show i < sl.length by omega)
    have hd : sl.drop i = q :: sl.drop (i + 1) := by
      obtain ⟨h1, h2⟩ := List.getElem?_eq_some_iff.mp hq
      rw [List.drop_eq_getElem_cons h1, h2]
    show gbX3_shadowsOf_5 F σ (nI k) (nI x) (gX3_shadowsOf_5 F σ (nI k) (nI x) m) v (nI i) = _
    unfold gbX3_shadowsOf_5
    rw [hs.1, if_neg (nI_ge (by omega) (by omega)), if_neg (nI_in hk (by omega)), if_neg (nI_in (show i < 6 by omega) (by omega)), nI_clamp (show i < 2 ^ 31 by omega), nI_clamp (show k < 2 ^ 31 by omega), (hs.2 i q hq).1, reachC hk hx (hv.2 q hqm).1, bd_some, nI_1, ih m (i + 1) _ (by omega) (by omega), hd]
    rfl
theorem soC {x : Nat} {sl : List (Nat × Nat)} {σ : ST} (hv : vS sl) (hs : RS sl (σ.1 2) (σ.2.1 0) (σ.2.1 1)) (hx : x < 10) : fX3_shadowsOf FU σ 1 (nI x) = some (vL sl x 1) ∧ fX3_shadowsOf FU σ 0 (nI x) = some (vL sl x 2) := by
  have h1 := so_loop (F := FU) (k := 1) hv hs (by omega) hx sl.length FU 0 0 (by omega) (by have := hv.1; unfold FU; omega)
  have h0 := so_loop (F := FU) (k := 0) hv hs (by omega) hx sl.length FU 0 0 (by omega) (by have := hv.1; unfold FU; omega)
  rw [List.drop_zero, show nI 0 = (0 : Int32) from rfl] at h1 h0
  rw [show nI 1 = (1 : Int32) from rfl] at h1
  unfold fX3_shadowsOf
  rw [h1, h0]
  exact ⟨rfl, rfl⟩
theorem wa_loop {F : Nat} {sl : List (Nat × Nat)} {σs : ST} (hv : vS sl) (hs : RS sl (σs.1 2) (σs.2.1 0) (σs.2.1 1)) : ∀ (r n i : Nat) (σ : ST), i + r = sl.length → r < n → ∃ σ', gX3_prepare_7 F σs n (nI i) σ = some (nI sl.length, σ') ∧ σ'.2.2.1 7 = pkF (sl.drop i) (fun q => nI q.2) (σ.2.2.1 7) := by
  have h6 := hv.1
  intro r
  induction r with
  | zero =>
    intro n i σ hi hn
    obtain ⟨m, rfl⟩ : ∃ m, n = m + 1 := ⟨n - 1, by omega⟩
    refine ⟨σ, ?_, ?_⟩
    · show gbX3_prepare_7 F σs _ (nI i) σ = _
      unfold gbX3_prepare_7
      rw [hs.1, if_pos (nI_le (by omega) (by omega)), show i = sl.length by omega]
    · rw [List.drop_eq_nil_of_le (by omega)]
      rfl
  | succ r ih =>
    intro n i σ hi hn
    obtain ⟨m, rfl⟩ : ∃ m, n = m + 1 := ⟨n - 1, by omega⟩
    obtain ⟨q, hq, hqm⟩ := at_get (show i < sl.length by omega)
    have hd : sl.drop i = q :: sl.drop (i + 1) := by
      obtain ⟨h1, h2⟩ := List.getElem?_eq_some_iff.mp hq
      rw [List.drop_eq_getElem_cons h1, h2]
    obtain ⟨σ', g1, g2⟩ := ih m (i + 1) (sJ σ 7 ((σ.2.2.1 7 <<< ((10 : Int32).toInt64 &&& 63)) ||| (nI q.2).toInt64)) (by omega) (by omega)
    refine ⟨σ', ?_, ?_⟩
    · show gbX3_prepare_7 F σs (gX3_prepare_7 F σs m) (nI i) σ = _
      unfold gbX3_prepare_7
      rw [hs.1, if_neg (nI_ge (by omega) (by omega)), if_neg (nI_in (show i < 6 by omega) (by omega)), nI_clamp (show i < 2 ^ 31 by omega), (hs.2 i q hq).2, nm_go, nI_1]
      exact g1
    · rw [g2, hd]
      rfl
def chN (sl : List (Nat × Nat)) (x : Nat) : Nat := if vL sl x 2 ||| wnL sl = wnL sl then 3 else if vL sl x 1 ||| wnL sl = wnL sl then 2 else 1
def tlN (sl : List (Nat × Nat)) (x : Nat) : Nat := chN sl x - 1
theorem ch_rng (sl : List (Nat × Nat)) (x : Nat) : chN sl x = 1 ∨ chN sl x = 2 ∨ chN sl x = 3 := by
  unfold chN
  by_cases h1 : vL sl x 2 ||| wnL sl = wnL sl
  · rw [if_pos h1]; omega
  · rw [if_neg h1]
    by_cases h2 : vL sl x 1 ||| wnL sl = wnL sl
    · rw [if_pos h2]; omega
    · rw [if_neg h2]; omega
theorem tl_lt (sl : List (Nat × Nat)) (x : Nat) : tlN sl x < 3 := by
  unfold tlN
  have := ch_rng sl x
  omega
theorem may_iff {sl : List (Nat × Nat)} (hv : vS sl) {x d : Nat} (hx : x < 10) (hd : d < 3) : vL sl x d ||| wnL sl = wnL sl ↔ d ≤ tlN sl x := by
  unfold tlN chN
  have h12 := vL_12 hv hx
  rcases (show d = 0 ∨ d = 1 ∨ d = 2 by omega) with rfl | rfl | rfl
  · rw [vL_0]
    exact ⟨fun _ => Nat.zero_le _, fun _ => sl64.ze _⟩
  · by_cases h2 : vL sl x 2 ||| wnL sl = wnL sl
    · rw [if_pos h2]
      exact ⟨fun _ => by omega, fun _ => sl_tr sl64 h12 h2⟩
    · rw [if_neg h2]
      by_cases h1 : vL sl x 1 ||| wnL sl = wnL sl
      · rw [if_pos h1]
        exact ⟨fun _ => by omega, fun _ => h1⟩
      · rw [if_neg h1]
        exact ⟨fun h => absurd h h1, fun h => by omega⟩
  · by_cases h2 : vL sl x 2 ||| wnL sl = wnL sl
    · rw [if_pos h2]
      exact ⟨fun _ => by omega, fun _ => h2⟩
    · rw [if_neg h2]
      refine ⟨fun h => absurd h h2, fun h => ?_⟩
      by_cases h1 : vL sl x 1 ||| wnL sl = wnL sl
      · rw [if_pos h1] at h; omega
      · rw [if_neg h1] at h; omega
theorem vL_le {sl : List (Nat × Nat)} (hv : vS sl) {x d e : Nat} (hx : x < 10) (he : e < 3) (h : d ≤ e) : vL sl x d ||| vL sl x e = vL sl x e := by
  rcases (show d = 0 ∨ (d = 1 ∧ e = 1) ∨ (d = 1 ∧ e = 2) ∨ (d = 2 ∧ e = 2) by omega) with rfl | ⟨rfl, rfl⟩ | ⟨rfl, rfl⟩ | ⟨rfl, rfl⟩
  · rw [vL_0]
    exact sl64.ze _
  · exact sl64.id _
  · exact vL_12 hv hx
  · exact sl64.id _
theorem vI_le {t x d e : Nat} (ht : t < 16) (hx : x < 10) (he : e < 3) (h : d ≤ e) : vI t x d ||| vI t x e = vI t x e := by
  rcases (show d = 0 ∨ (d = 1 ∧ e = 1) ∨ (d = 1 ∧ e = 2) ∨ (d = 2 ∧ e = 2) by omega) with rfl | ⟨rfl, rfl⟩ | ⟨rfl, rfl⟩ | ⟨rfl, rfl⟩
  · exact sl32.ze _
  · exact sl32.id _
  · exact vI_12' ⟨t, ht⟩ ⟨x, hx⟩
  · exact sl32.id _
def TL (sl : List (Nat × Nat)) (x r : Nat) : Int64 := oO (· ||| ·) 0 (fun y => vL sl y (tlN sl y)) x r
theorem TL_s (sl : List (Nat × Nat)) (x r : Nat) : TL sl x (r + 1) = vL sl x (tlN sl x) ||| TL sl (x + 1) r := rfl
theorem TL_w {sl : List (Nat × Nat)} (hv : vS sl) {x r : Nat} (h : x + r ≤ 10) : TL sl x r ||| wnL sl = wnL sl :=
  oO_le sl64 r x (fun i hi => (may_iff hv (by omega) (tl_lt _ _)).mpr (Nat.le_refl _))
theorem dL_tC (sl : List (Nat × Nat)) (x r : Nat) : dL sl x r (tC (tlN sl) x r) = TL sl x r := dO_tC (tl_lt sl) r x
/-- who fits stands only where he may -/
theorem dig_ok {sl : List (Nat × Nat)} (hv : vS sl) {x r c : Nat} {dk : Int64} (hx : x + r ≤ 10) (h : dk ||| dL sl x r c = wnL sl) : ∀ i, i < r → dig i c ≤ tlN sl (x + i) := by
  intro i hi
  refine (may_iff hv (by omega) (dig_lt _ _)).mp ?_
  refine sl_tr sl64 (dO_at sl64 (val := vL sl) r x c i hi) ?_
  rw [← h]
  exact sl_r sl64 _ _
theorem dL_TL {sl : List (Nat × Nat)} (hv : vS sl) {x r c : Nat} {dk : Int64} (hx : x + r ≤ 10) (h : dk ||| dL sl x r c = wnL sl) : dL sl x r c ||| TL sl x r = TL sl x r :=
  dO_le sl64 r x c (fun i hi => vL_le hv (by omega) (tl_lt _ _) (dig_ok hv hx h i hi))
theorem TL_fit {sl : List (Nat × Nat)} (hv : vS sl) {x r c : Nat} {dk : Int64} (hx : x + r ≤ 10) (h : dk ||| dL sl x r c = wnL sl) : dk ||| TL sl x r = wnL sl := by
  refine sl_an sl64 ?_ ?_
  · refine sl_or sl64 ?_ (TL_w hv hx)
    rw [← h]
    exact sl_l sl64 _ _
  · have := sl_2 sl64 (sl64.id dk) (dL_TL hv hx h)
    rw [h] at this
    exact this
abbrev cW (sl : List (Nat × Nat)) (x r : Nat) (dk : Int64) : Nat := cM (· ||| ·) 0 (vL sl) (wnL sl) x r dk
theorem cW_no {sl : List (Nat × Nat)} (hv : vS sl) {x r : Nat} {dk : Int64} (hx : x + r ≤ 10) (h : ¬ dk ||| TL sl x r = wnL sl) : cW sl x r dk = 0 := by
  unfold cW cM
  rw [fb_ct_zero]
  exact fun c _ => decide_eq_false (fun e => h (TL_fit hv hx e))
theorem cW_out {sl : List (Nat × Nat)} (hv : vS sl) {x r d : Nat} {dk : Int64} (hx : x < 10) (hd : d < 3) (h : ¬ d ≤ tlN sl x) : cW sl (x + 1) r (dk ||| vL sl x d) = 0 :=
  cM_0 sl64 (a := vL sl x d) (sl_r sl64 _ _) (fun e => h ((may_iff hv hx hd).mp e))
theorem cW_s {sl : List (Nat × Nat)} (x r : Nat) (dk : Int64) : cW sl x (r + 1) dk = cW sl (x + 1) r dk + cW sl (x + 1) r (dk ||| vL sl x 1) + cW sl (x + 1) r (dk ||| vL sl x 2) := by
  have := cM_s sl64 (vL sl) (wnL sl) x r dk
  have e : dk ||| vL sl x 0 = dk := by
    rw [vL_0]
    exact (sl64.co _ _).trans (sl64.ze _)
  unfold cW
  rw [this, e]
theorem cW_w {sl : List (Nat × Nat)} (hv : vS sl) {x r : Nat} (hx : x < 10) : cW sl x (r + 1) (wnL sl) = cW sl (x + 1) r (wnL sl) * chN sl x := by
  rw [cW_s]
  have hin : ∀ d, d < 3 → d ≤ tlN sl x → wnL sl ||| vL sl x d = wnL sl := fun d h1 h2 => (sl64.co _ _).trans ((may_iff hv hx h1).mpr h2)
  have ht : tlN sl x = chN sl x - 1 := rfl
  rcases ch_rng sl x with h | h | h
  · rw [cW_out hv hx (by omega) (by omega), cW_out hv hx (by omega) (by omega), h]
    omega
  · rw [hin 1 (by omega) (by omega), cW_out hv hx (by omega) (by omega), h]
    omega
  · rw [hin 1 (by omega) (by omega), hin 2 (by omega) (by omega), h]
    omega
/-- prepared from column k on -/
def PP (sl : List (Nat × Nat)) (k : Nat) (σ : ST) : Prop := σ.2.2.1 7 = wnL sl ∧ (∀ x, k ≤ x → x < 10 → σ.2.2.2 0 x = vL sl x 1 ∧ σ.2.2.2 1 x = vL sl x 2 ∧ σ.2.1 2 x = nI (chN sl x)) ∧ ∀ x, k ≤ x → x ≤ 10 → σ.2.2.2 3 x = TL sl x (10 - x) ∧ σ.2.1 4 x = nI (cW sl x (10 - x) (wnL sl))
theorem taC {F x k : Nat} {sl : List (Nat × Nat)} {σ : ST} (h : PP sl k σ) (hk : k ≤ x) (hx : x < 10) : fX3_tallest F σ (nI x) = some (vL sl x (tlN sl x)) := by
  obtain ⟨h0, h1, h2⟩ := h.2.1 x hk hx
  have ht : tlN sl x = chN sl x - 1 := rfl
  unfold fX3_tallest
  rw [if_neg (nI_in hx (by omega)), nI_clamp (by omega), h0, h1, h2, ht]
  rcases ch_rng sl x with h | h | h
  · rw [h, if_neg (show ¬ nI 1 = (3 : Int32) by decide), if_neg (show ¬ nI 1 = (2 : Int32) by decide), show 1 - 1 = 0 from rfl, vL_0]
  · rw [h, if_neg (show ¬ nI 2 = (3 : Int32) by decide), if_pos (show nI 2 = (2 : Int32) from rfl)]
  · rw [h, if_pos (show nI 3 = (3 : Int32) from rfl)]
def σF (σ : ST) (x : Nat) (c m : Int64) (k : Int32) (tall : Int64) : ST := sA (sL (sA (sL (sL σ 0 x c) 1 x m) 2 x k) 3 x (σ.2.2.2 3 (x + 1) ||| tall)) 4 x (σ.2.1 4 (x + 1) * k)
theorem pp_new {sl : List (Nat × Nat)} {σ : ST} {x : Nat} (hv : vS sl) (h : PP sl (x + 1) σ) (hx : x < 10) : PP sl x (σF σ x (vL sl x 1) (vL sl x 2) (nI (chN sl x)) (vL sl x (tlN sl x))) := by
  obtain ⟨h7, h1, h2⟩ := h
  refine ⟨h7, fun y hy hy2 => ?_, fun y hy hy2 => ?_⟩
  · have e0 : (σF σ x (vL sl x 1) (vL sl x 2) (nI (chN sl x)) (vL sl x (tlN sl x))).2.2.2 0 y = if y = x then vL sl x 1 else σ.2.2.2 0 y := rfl
    have e1 : (σF σ x (vL sl x 1) (vL sl x 2) (nI (chN sl x)) (vL sl x (tlN sl x))).2.2.2 1 y = if y = x then vL sl x 2 else σ.2.2.2 1 y := rfl
    have e2 : (σF σ x (vL sl x 1) (vL sl x 2) (nI (chN sl x)) (vL sl x (tlN sl x))).2.1 2 y = if y = x then nI (chN sl x) else σ.2.1 2 y := rfl
    rw [e0, e1, e2]
    by_cases e : y = x
    · rw [if_pos e, if_pos e, if_pos e, e]
      exact ⟨rfl, rfl, rfl⟩
    · rw [if_neg e, if_neg e, if_neg e]
      exact h1 y (by omega) hy2
  · have e0 : (σF σ x (vL sl x 1) (vL sl x 2) (nI (chN sl x)) (vL sl x (tlN sl x))).2.2.2 3 y = if y = x then σ.2.2.2 3 (x + 1) ||| vL sl x (tlN sl x) else σ.2.2.2 3 y := rfl
    have e1 : (σF σ x (vL sl x 1) (vL sl x 2) (nI (chN sl x)) (vL sl x (tlN sl x))).2.1 4 y = if y = x then σ.2.1 4 (x + 1) * nI (chN sl x) else σ.2.1 4 y := rfl
    rw [e0, e1]
    by_cases e : y = x
    · rw [if_pos e, if_pos e, e, (h2 (x + 1) (by omega) (by omega)).1, (h2 (x + 1) (by omega) (by omega)).2, show 10 - x = 10 - (x + 1) + 1 by omega, TL_s, cW_w hv hx, pk_mul]
      exact ⟨sl64.co _ _, rfl⟩
    · rw [if_neg e, if_neg e]
      exact h2 y (by omega) hy2
theorem msC (F : Nat) (σ : ST) (a : Int64) : fX3_mayStand F σ a = some (if a ||| σ.2.2.1 7 = σ.2.2.1 7 then 1 else 0) := by
  unfold fX3_mayStand
  by_cases h : a ||| σ.2.2.1 7 = σ.2.2.1 7
  · rw [if_pos ((cmp0 _ _).mpr ((sub64 _ _).mpr h)), if_pos h]
  · rw [if_neg (fun e => h ((sub64 _ _).mp ((cmp0 _ _).mp e))), if_neg h]
theorem pr_loop {sl : List (Nat × Nat)} {σs : ST} (hv : vS sl) (hs : RS sl (σs.1 2) (σs.2.1 0) (σs.2.1 1)) : ∀ (r n : Nat) (σ : ST), r ≤ 10 → r < n → PP sl r σ → ∃ z : Int32 × ST, gX3_prepare_59 FU σs n (nI r - 1) σ = some z ∧ PP sl 0 z.2 := by
  intro r
  induction r with
  | zero =>
    intro n σ hr hn h
    obtain ⟨m, rfl⟩ : ∃ m, n = m + 1 := ⟨n - 1, by omega⟩
    refine ⟨(nI 0 - 1, σ), ?_, h⟩
    show gbX3_prepare_59 FU σs _ (nI 0 - 1) σ = _
    unfold gbX3_prepare_59
    rw [if_pos (by decide)]
  | succ x ih =>
    intro n σ hr hn h
    obtain ⟨m, rfl⟩ : ∃ m, n = m + 1 := ⟨n - 1, by omega⟩
    have hx : x < 10 := by omega
    have hnew := pp_new hv h hx
    obtain ⟨z, g1, g2⟩ := ih m _ (by omega) (by omega) hnew
    refine ⟨z, ?_, g2⟩
    show gbX3_prepare_59 FU σs (gX3_prepare_59 FU σs m) (nI (x + 1) - 1) σ = _
    unfold gbX3_prepare_59
    have f1 : ∀ c m : Int64, (sL (sL σ 0 x c) 1 x m).2.2.2 1 x = m := fun c m => by
      rw [lL_at, if_pos rfl, if_pos rfl]
    have f0 : ∀ c m : Int64, (sL (sL σ 0 x c) 1 x m).2.2.2 0 x = c := fun c m => by
      rw [lL_at, if_neg (by decide), lL_at, if_pos rfl, if_pos rfl]
    have f7 : ∀ c m : Int64, (sL (sL σ 0 x c) 1 x m).2.2.1 7 = wnL sl := fun c m => h.1
    rw [nI_pred, if_neg (nI_pos (by omega)), (soC hv hs hx).1, bd_some, if_neg (nI_in hx (by omega)), nI_clamp (by omega), nm_go, (soC hv hs hx).2, bd_some, nm_go, f1, f0, msC, msC, f7, bd_some, bd_some, nI_1, nI_clamp (show x + 1 < 2 ^ 31 by omega), nI_m1]
    have hc : chN sl x = if vL sl x 2 ||| wnL sl = wnL sl then 3 else if vL sl x 1 ||| wnL sl = wnL sl then 2 else 1 := rfl
    have fin : ∀ (k : Int32) (tall : Int64), fX3_tallest FU (sA (sL (sL σ 0 x (vL sl x 1)) 1 x (vL sl x 2)) 2 x k) (nI x) = some tall → nI (chN sl x) = k → vL sl x (tlN sl x) = tall →
        (nm (sA (sL (sL σ 0 x (vL sl x 1)) 1 x (vL sl x 2)) 2 x k) fun (s29 : ST) =>
        if nI (x + 1) < 0 ∨ 11 ≤ x + 1 then none else
        (fX3_tallest FU s29 (nI x)).bind fun r32 =>
        if nI x < 0 ∨ 11 ≤ x then none else
        nm (sL s29 3 x ((s29.2.2.2 3 (x + 1)) ||| r32)) fun (s35 : ST) =>
        nm (sA s35 4 x ((s35.2.1 4 (x + 1)) * (s35.2.1 2 x))) fun (s37 : ST) =>
        gX3_prepare_59 FU σs m (nI x - 1) s37) = some z := by
      intro k tall h1 h2 h3
      rw [nm_go, if_neg (ckd (show x + 1 < 11 by omega) (by omega)), h1, bd_some, if_neg (ckd (show x < 11 by omega) (by omega)), nm_go, nm_go]
      have e2 : (sL (sA (sL (sL σ 0 x (vL sl x 1)) 1 x (vL sl x 2)) 2 x k) 3 x ((sA (sL (sL σ 0 x (vL sl x 1)) 1 x (vL sl x 2)) 2 x k).2.2.2 3 (x + 1) ||| tall)).2.1 2 x = k := by
        show (sA (sL (sL σ 0 x (vL sl x 1)) 1 x (vL sl x 2)) 2 x k).2.1 2 x = k
        rw [aA_at, if_pos rfl, if_pos rfl]
      rw [e2]
      rw [h2, h3] at g1
      exact g1
    have tal : ∀ (k : Int32), fX3_tallest FU (sA (sL (sL σ 0 x (vL sl x 1)) 1 x (vL sl x 2)) 2 x k) (nI x) = if k = 3 then some (vL sl x 2) else if k = 2 then some (vL sl x 1) else some 0 := fun k => by
      unfold fX3_tallest
      have a2 : (sA (sL (sL σ 0 x (vL sl x 1)) 1 x (vL sl x 2)) 2 x k).2.1 2 x = k := by
        rw [aA_at, if_pos rfl, if_pos rfl]
      have a1 : (sA (sL (sL σ 0 x (vL sl x 1)) 1 x (vL sl x 2)) 2 x k).2.2.2 1 x = vL sl x 2 := f1 _ _
      have a0 : (sA (sL (sL σ 0 x (vL sl x 1)) 1 x (vL sl x 2)) 2 x k).2.2.2 0 x = vL sl x 1 := f0 _ _
      rw [if_neg (nI_in hx (by omega)), nI_clamp (by omega), a2, a1, a0]
    have ht : tlN sl x = chN sl x - 1 := rfl
    by_cases c2 : vL sl x 2 ||| wnL sl = wnL sl
    · rw [if_pos c2] at hc
      rw [if_pos c2, if1]
      exact fin 3 (vL sl x 2) (by rw [tal, if_pos rfl]) (by rw [hc]; rfl) (by rw [ht, hc])
    · rw [if_neg c2] at hc
      rw [if_neg c2, if0]
      by_cases c1 : vL sl x 1 ||| wnL sl = wnL sl
      · rw [if_pos c1] at hc
        rw [if_pos c1, if1]
        exact fin 2 (vL sl x 1) (by rw [tal, if_neg (by decide), if_pos rfl]) (by rw [hc]; rfl) (by rw [ht, hc])
      · rw [if_neg c1] at hc
        rw [if_neg c1, if0]
        exact fin 1 0 (by rw [tal, if_neg (by decide), if_neg (by decide)]) (by rw [hc]; rfl) (by rw [ht, hc]; exact vL_0 _ _)
theorem prC {sl : List (Nat × Nat)} {σs : ST} (σ : ST) (hv : vS sl) (hs : RS sl (σs.1 2) (σs.2.1 0) (σs.2.1 1)) : ∃ σ', fX3_prepare FU σ σs = some σ' ∧ PP sl 0 σ' := by
  obtain ⟨σ1, h1, h2⟩ := wa_loop (F := FU) hv hs sl.length FU 0 (sJ σ 7 0) (by omega) (by have := hv.1; unfold FU; omega)
  rw [List.drop_zero] at h2
  rw [show nI 0 = (0 : Int32) from rfl] at h1
  have h2 : σ1.2.2.1 7 = wnL sl := h2
  have hp : PP sl 10 (sA (sL σ1 3 10 0) 4 10 1) := by
    refine ⟨h2, fun x a b => by omega, fun x a b => ?_⟩
    have e : x = 10 := by omega
    subst e
    refine ⟨rfl, ?_⟩
    show (1 : Int32) = nI (cW sl 10 0 (wnL sl))
    unfold cW cM
    have e2 : wnL sl ||| dO (· ||| ·) 0 (vL sl) 10 0 0 = wnL sl := (sl64.co _ _).trans (sl64.ze _)
    show (1 : Int32) = nI (0 + if decide (wnL sl ||| dO (· ||| ·) 0 (vL sl) 10 0 0 = wnL sl) then 1 else 0)
    rw [decide_eq_true e2]
    rfl
  obtain ⟨z, g1, g2⟩ := pr_loop hv hs 10 FU _ (by omega) (by unfold FU; omega) hp
  have g1 : gX3_prepare_59 FU σs FU 9 (sA (sL σ1 3 10 0) 4 10 1) = some z := g1
  unfold fX3_prepare
  rw [nm_go, h1, bd_some, nm_go, nm_go]
  have e10 : (10 : Int32).toNatClampNeg = 10 := rfl
  rw [e10]
  simp only []
  rw [g1]
  exact ⟨_, rfl, g2⟩
