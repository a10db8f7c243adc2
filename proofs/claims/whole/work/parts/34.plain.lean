/-! plain reads -/
theorem if1 {α : Type} {a b : α} : (if (1 : Int32) = 0 then a else b) = b := rfl
theorem if0 {α : Type} {a b : α} : (if (0 : Int32) = 0 then a else b) = a := rfl
theorem has_in {F j : Nat} {bl : List B3} {σ : ST} (h : RB bl σ) (hv : bl.length ≤ 8) (hj : j < bl.length) : fX1_has F σ (nI j) = some 1 := by
  unfold fX1_has
  rw [h.1, bel_in hj (by omega)]
  rfl
theorem has_out {F : Nat} {x : Int32} {bl : List B3} {σ : ST} (h : RB bl σ) (hx : x < 0 ∨ nI bl.length ≤ x) : fX1_has F σ x = some 0 := by
  unfold fX1_has
  rw [h.1, bel_out hx]
  rfl
theorem isb_in {F j : Nat} {bl : List B3} {σ : ST} {f : Nat → Int32} (h : RB3 bl (σ.1 11) f) (hv : bl.length ≤ 8) (hj : j < bl.length) : fX11_isBody F σ (nI j) = some 1 := by
  unfold fX11_isBody
  rw [h.1, inm_in hj (by omega)]
  rfl
theorem isb_out {F : Nat} {x : Int32} {bl : List B3} {σ : ST} {f : Nat → Int32} (h : RB3 bl (σ.1 11) f) (hv : bl.length ≤ 8) (hx : x < 0 ∨ nI bl.length ≤ x) : fX11_isBody F σ x = some 0 := by
  unfold fX11_isBody
  rw [h.1, inm_out (by omega) hx]
  rfl
theorem min_in {F t : Nat} (ht : t < 16) : fX10_isMinute F (nI t) = some 1 ∧ fX11_isMinute F (nI t) = some 1 := by
  unfold fX10_isMinute fX11_isMinute
  rw [show (16 : Int32) = nI 16 from rfl, bel_in ht (by omega), show (15 : Int64) = (nI 15).toInt64 from rfl, in_in (by omega) (by omega)]
  exact ⟨rfl, rfl⟩
theorem min_out {F : Nat} {x : Int32} (hx : x < 0 ∨ nI 16 ≤ x) : fX10_isMinute F x = some 0 ∧ fX11_isMinute F x = some 0 := by
  unfold fX10_isMinute fX11_isMinute
  rw [show (16 : Int32) = nI 16 from rfl, bel_out hx, show (15 : Int64) = (nI 15).toInt64 from rfl, in_out (by omega) hx]
  exact ⟨rfl, rfl⟩
theorem ckd {n N : Nat} (h : n < N) (hN : n < 2 ^ 31) : ¬ (nI n < 0 ∨ N ≤ n) := fun q => q.elim (nI_pos hN) (fun q => by omega)
theorem m3 (j k : Nat) : (3 : Int32) * nI j + nI k = nI (3 * j + k) := by rw [show (3 : Int32) = nI 3 from rfl, pk_mul, nI_add]
theorem m3z (j : Nat) : (3 : Int32) * nI j + 0 = nI (3 * j) := by rw [show (3 : Int32) = nI 3 from rfl, pk_mul, Int32.add_zero]
theorem m30 (j : Nat) : (3 : Int32) * nI j = nI (3 * j) := by rw [show (3 : Int32) = nI 3 from rfl, pk_mul]
theorem m4 (j k : Nat) : (4 : Int32) * nI j + nI k = nI (4 * j + k) := by rw [show (4 : Int32) = nI 4 from rfl, pk_mul, nI_add]
theorem m40 (j : Nat) : (4 : Int32) * nI j = nI (4 * j) := by rw [show (4 : Int32) = nI 4 from rfl, pk_mul]
theorem at_get {α : Type} {l : List α} {j : Nat} (h : j < l.length) : ∃ q, l[j]? = some q ∧ q ∈ l := ⟨l[j], List.getElem?_eq_getElem h, List.getElem_mem h⟩
theorem hgt_eq {F k : Nat} (h : k < 6) : fX11_highOf F (nI k) = some (hgtI k) := by
  rcases (show k = 0 ∨ k = 1 ∨ k = 2 ∨ k = 3 ∨ k = 4 ∨ k = 5 by omega) with rfl | rfl | rfl | rfl | rfl | rfl <;> rfl
theorem hds_eq {F k : Nat} (h : k < 6) : fX11_manyOf F (nI k) = some (hdsI k) := by
  rcases (show k = 0 ∨ k = 1 ∨ k = 2 ∨ k = 3 ∨ k = 4 ∨ k = 5 by omega) with rfl | rfl | rfl | rfl | rfl | rfl <;> rfl
theorem height_eq {F j : Nat} {bl : List B3} {σ : ST} {q : B3} (h : RB bl σ) (hv : vB bl) (hq : bl[j]? = some q) : fX1_height F σ (nI j) = some (hgtI q.1) := by
  have hj := (List.getElem?_eq_some_iff.mp hq).1
  have hk := (hv.2 q (List.mem_of_getElem? hq)).1
  have h8 := hv.1
  unfold fX1_height
  rw [if_neg (nI_in (show j < 8 by omega) (by omega)), nI_clamp (by omega), (h.2 j q hq).1, if_neg (nI_in hk (by omega)), nI_clamp (by omega)]
theorem heads_eq {F j : Nat} {bl : List B3} {σ : ST} {q : B3} (h : RB bl σ) (hv : vB bl) (hq : bl[j]? = some q) : fX1_heads F σ (nI j) = some (hdsI q.1) := by
  have hj := (List.getElem?_eq_some_iff.mp hq).1
  have hk := (hv.2 q (List.mem_of_getElem? hq)).1
  have h8 := hv.1
  unfold fX1_heads
  rw [if_neg (nI_in (show j < 8 by omega) (by omega)), nI_clamp (by omega), (h.2 j q hq).1, if_neg (nI_in hk (by omega)), nI_clamp (by omega)]
theorem st_body : St_body Inv := by
  intro S x1 x2 hI
  obtain ⟨-, ⟨bl, hv, hb, hm, -⟩, -⟩ := hI
  have h8 := hv.1
  unfold fX10_body fX11_body
  rcases rng x1 bl.length (by omega) with ⟨j, hj, rfl⟩ | hx
  · obtain ⟨q, hq, hqm⟩ := at_get hj
    have hk := (hv.2 q hqm).1
    obtain ⟨a0, a1, a2⟩ := hb.2 j q hq
    obtain ⟨b0, b1, b2⟩ := hm.2 j q hq
    rw [has_in hb h8 hj, isb_in hm h8 hj, bd_some, bd_some, if1, if1]
    by_cases e0 : x2 = 0
    · subst e0
      rw [if_pos rfl, if_pos rfl, m3z, if_neg (nI_in (show j < 8 by omega) (by omega)), if_neg (nI_in (show 3 * j < 24 by omega) (by omega)), nI_clamp (by omega), nI_clamp (by omega)]
      exact ⟨_, _, rfl, rfl, a0.trans b0.symm⟩
    rw [if_neg e0, if_neg e0]
    by_cases e1 : x2 = 1
    · subst e1
      rw [if_pos rfl, if_pos rfl, show (1 : Int32) = nI 1 from rfl, m3, if_neg (nI_in (show j < 8 by omega) (by omega)), if_neg (nI_in (show 3 * j + 1 < 24 by omega) (by omega)), nI_clamp (by omega), nI_clamp (by omega)]
      exact ⟨_, _, rfl, rfl, a1.trans b1.symm⟩
    rw [if_neg e1, if_neg e1]
    by_cases e2 : x2 = 2
    · subst e2
      rw [if_pos rfl, if_pos rfl, show (2 : Int32) = nI 2 from rfl, m3, if_neg (nI_in (show j < 8 by omega) (by omega)), if_neg (nI_in (show 3 * j + 2 < 24 by omega) (by omega)), nI_clamp (by omega), nI_clamp (by omega)]
      exact ⟨_, _, rfl, rfl, a2.trans b2.symm⟩
    rw [if_neg e2, if_neg e2]
    by_cases e3 : x2 = 3
    · subst e3
      rw [if_pos rfl, if_pos rfl, height_eq hb hv hq, m30, if_neg (nI_in (show 3 * j < 24 by omega) (by omega)), nI_clamp (by omega), b0, hgt_eq hk]
      exact ⟨_, _, rfl, rfl, rfl⟩
    rw [if_neg e3, if_neg e3]
    by_cases e4 : x2 = 4
    · subst e4
      rw [if_pos rfl, if_pos rfl, heads_eq hb hv hq, m30, if_neg (nI_in (show 3 * j < 24 by omega) (by omega)), nI_clamp (by omega), b0, hds_eq hk]
      exact ⟨_, _, rfl, rfl, rfl⟩
    rw [if_neg e4, if_neg e4]
    exact ⟨_, _, rfl, rfl, rfl⟩
  · rw [has_out hb hx, isb_out hm h8 hx]
    exact ⟨_, _, rfl, rfl, rfl⟩
theorem st_shadow : St_shadow Inv := by
  intro S x1 x2 hI
  obtain ⟨-, ⟨bl, hv, hb, hm, -⟩, -⟩ := hI
  have h8 := hv.1
  unfold fX10_shadow fX11_shadow
  rcases rng x1 bl.length (by omega) with ⟨j, hj, rfl⟩ | hx
  · obtain ⟨q, hq, hqm⟩ := at_get hj
    have hk := (hv.2 q hqm).1
    obtain ⟨b0, b1, b2⟩ := hm.2 j q hq
    rw [has_in hb h8 hj, isb_in hm h8 hj, bd_some, bd_some, if1, if1]
    rcases rng x2 16 (by omega) with ⟨t, ht, rfl⟩ | hx
    · rw [(min_in ht).1, (min_in ht).2, bd_some, bd_some, if1, if1, height_eq hb hv hq, m30, if_neg (nI_in (show 3 * j < 24 by omega) (by omega)), nI_clamp (by omega), b0, hgt_eq hk, bd_some, bd_some]
      unfold fX10_lengthOfShadow fX11_longAt fX11_without
      by_cases h0 : 0 ≤ nI t - 8
      · rw [if_pos h0, if_pos h0]
        exact ⟨_, _, rfl, rfl, rfl⟩
      · rw [if_neg h0, if_neg h0]
        exact ⟨_, _, rfl, rfl, by rw [Int32.zero_sub]⟩
    · rw [(min_out hx).1, (min_out hx).2]
      exact ⟨_, _, rfl, rfl, rfl⟩
  · rw [has_out hb hx, isb_out hm h8 hx]
    exact ⟨_, _, rfl, rfl, rfl⟩
def g4 (q : H4) (k : Nat) : Nat := match k with
  | 0 => q.1
  | 1 => q.2.1
  | 2 => q.2.2.1
  | _ => q.2.2.2
theorem at4_g {q : H4} {f : Nat → Int32} {b k : Nat} (h : at4 q f b) (hk : k < 4) : f (b + k) = nI (g4 q k) := by
  rcases (show k = 0 ∨ k = 1 ∨ k = 2 ∨ k = 3 by omega) with rfl | rfl | rfl | rfl
  · exact h.1
  · exact h.2.1
  · exact h.2.2.1
  · exact h.2.2.2
theorem hh_in {F j : Nat} {n : Nat} {σ : ST} (h : σ.1 3 = nI n) (hn : n ≤ 3) (hj : j < n) : fX4_hasHill F σ (nI j) = some 1 := by
  unfold fX4_hasHill
  rw [h, bel_in hj (by omega)]
  rfl
theorem hh_out {F : Nat} {x : Int32} {n : Nat} {σ : ST} (h : σ.1 3 = nI n) (hx : x < 0 ∨ nI n ≤ x) : fX4_hasHill F σ x = some 0 := by
  unfold fX4_hasHill
  rw [h, bel_out hx]
  rfl
theorem ish_in {F j : Nat} {n : Nat} {σ : ST} (h : σ.1 12 = nI n) (hn : n ≤ 3) (hj : j < n) : fX11_isHill F σ (nI j) = some 1 := by
  unfold fX11_isHill
  rw [h, inm_in hj (by omega)]
  rfl
theorem ish_out {F : Nat} {x : Int32} {n : Nat} {σ : ST} (h : σ.1 12 = nI n) (hn : n ≤ 3) (hx : x < 0 ∨ nI n ≤ x) : fX11_isHill F σ x = some 0 := by
  unfold fX11_isHill
  rw [h, inm_out (by omega) hx]
  rfl
theorem st_hill : St_hill Inv := by
  intro S x1 x2 hI
  obtain ⟨-, -, ⟨hl, cl, su, ⟨h3, hok, -⟩, ⟨⟨a1, a2⟩, -⟩, ⟨⟨b1, b2⟩, -⟩⟩, -⟩ := hI
  unfold fX10_hill fX11_hill
  rcases rng x1 hl.length (by omega) with ⟨j, hj, rfl⟩ | hx
  · obtain ⟨q, hq, hqm⟩ := at_get hj
    rw [hh_in a1 h3 hj, ish_in b1 h3 hj, bd_some, bd_some, if1, if1, show (4 : Int32) = nI 4 from rfl, show (3 : Int64) = (nI 3).toInt64 from rfl]
    rcases rng x2 4 (by omega) with ⟨k, hk, rfl⟩ | hx
    · have e1 := at4_g (a2 j q hq) hk
      have e2 := at4_g (b2 j q hq) hk
      rw [Nat.zero_add] at e1
      rw [bel_in hk (by omega), in_in (by omega) (by omega), bd_some, bd_some, if1, if1, pk_mul, nI_add, if_neg (nI_in (show 4 * j + k < 12 by omega) (by omega)), nI_clamp (show 4 * j + k < 2 ^ 31 by omega), e2]
      rcases (show j = 0 ∨ j = 1 ∨ j = 2 by omega) with rfl | rfl | rfl
      · rw [if_pos (show nI 0 = (0 : Int32) from rfl), if_neg (nI_in hk (by omega)), nI_clamp (show k < 2 ^ 31 by omega), e1]
        exact ⟨_, _, rfl, rfl, rfl⟩
      · rw [if_neg (show ¬ nI 1 = (0 : Int32) by decide), if_pos (show nI 1 = (1 : Int32) from rfl), if_neg (nI_in hk (by omega)), nI_clamp (show k < 2 ^ 31 by omega), e1]
        exact ⟨_, _, rfl, rfl, rfl⟩
      · rw [if_neg (show ¬ nI 2 = (0 : Int32) by decide), if_neg (show ¬ nI 2 = (1 : Int32) by decide), if_pos (show nI 2 = (2 : Int32) from rfl), if_neg (nI_in hk (by omega)), nI_clamp (show k < 2 ^ 31 by omega), e1]
        exact ⟨_, _, rfl, rfl, rfl⟩
    · rw [bel_out hx, in_out (by omega) hx]
      exact ⟨_, _, rfl, rfl, rfl⟩
  · rw [hh_out a1 hx, ish_out b1 h3 hx]
    exact ⟨_, _, rfl, rfl, rfl⟩
/-! heads -/
def hdS (bl : List B3) (i : Nat) : Int32 := ((bl.drop i).map (fun q => hdsI q.1)).foldl (· + ·) 0
def hsum (bl : List B3) : Nat → Int32 → Int32
  | 0, a => a
  | n + 1, a => match bl[bl.length - (n + 1)]? with
    | some q => hsum bl n (a + hdsI q.1)
    | none => a
theorem allH_loop {F : Nat} {bl : List B3} {σ : ST} (h : RB bl σ) (hv : vB bl) : ∀ (r n : Nat) (a : Int32), r ≤ bl.length → r < n → gX1_allHeads_4 F σ n a (nI (bl.length - r)) = some (hsum bl r a, nI bl.length) := by
  have h8 := hv.1
  intro r
  induction r with
  | zero =>
    intro n a _ hn
    obtain ⟨m, rfl⟩ : ∃ m, n = m + 1 := ⟨n - 1, by omega⟩
    show gbX1_allHeads_4 F σ (gX1_allHeads_4 F σ m) a (nI (bl.length - 0)) = _
    unfold gbX1_allHeads_4
    rw [h.1, if_pos (nI_le (by omega) (by omega))]
    rfl
  | succ r ih =>
    intro n a hr hn
    obtain ⟨m, rfl⟩ : ∃ m, n = m + 1 := ⟨n - 1, by omega⟩
    obtain ⟨q, hq, -⟩ := at_get (show bl.length - (r + 1) < bl.length by omega)
    show gbX1_allHeads_4 F σ (gX1_allHeads_4 F σ m) a (nI (bl.length - (r + 1))) = _
    unfold gbX1_allHeads_4
    rw [h.1, if_neg (nI_ge (by omega) (by omega)), heads_eq h hv hq, bd_some, nI_1, show bl.length - (r + 1) + 1 = bl.length - r by omega, ih m _ (by omega) (by omega)]
    simp only [hsum, hq]
theorem allH {bl : List B3} {σ : ST} (h : RB bl σ) (hv : vB bl) : fX1_allHeads FU σ = some (hsum bl bl.length 0) := by
  have h8 := hv.1
  unfold fX1_allHeads
  have := allH_loop (F := FU) h hv bl.length FU 0 (Nat.le_refl _) (by unfold FU; omega)
  rw [Nat.sub_self] at this
  rw [show (0 : Int32) = nI 0 from rfl] at this ⊢
  rw [this]
  rfl
theorem cts_loop {F : Nat} {bl : List B3} {σ : ST} (h : RB3 bl (σ.1 11) (σ.2.1 7)) (hv : vB bl) : ∀ (r n : Nat) (a : Int32), r ≤ bl.length → r < n → gX11_counts_4 F σ n a (nI (bl.length - r)) = some (hsum bl r a, nI bl.length) := by
  have h8 := hv.1
  intro r
  induction r with
  | zero =>
    intro n a _ hn
    obtain ⟨m, rfl⟩ : ∃ m, n = m + 1 := ⟨n - 1, by omega⟩
    show gbX11_counts_4 F σ (gX11_counts_4 F σ m) a (nI (bl.length - 0)) = _
    unfold gbX11_counts_4
    rw [h.1, if_pos (nI_le (by omega) (by omega))]
    rfl
  | succ r ih =>
    intro n a hr hn
    obtain ⟨m, rfl⟩ : ∃ m, n = m + 1 := ⟨n - 1, by omega⟩
    obtain ⟨q, hq, hqm⟩ := at_get (show bl.length - (r + 1) < bl.length by omega)
    show gbX11_counts_4 F σ (gX11_counts_4 F σ m) a (nI (bl.length - (r + 1))) = _
    unfold gbX11_counts_4
    rw [h.1, if_neg (nI_ge (by omega) (by omega)), m30, if_neg (nI_in (show 3 * (bl.length - (r + 1)) < 24 by omega) (by omega)), nI_clamp (by omega), (h.2 _ q hq).1, hds_eq (hv.2 q hqm).1, bd_some, nI_1, show bl.length - (r + 1) + 1 = bl.length - r by omega, ih m _ (by omega) (by omega)]
    simp only [hsum, hq]
theorem cts {bl : List B3} {σ : ST} (h : RB3 bl (σ.1 11) (σ.2.1 7)) (hv : vB bl) : fX11_counts FU σ = some (hsum bl bl.length 0) := by
  have h8 := hv.1
  unfold fX11_counts
  have := cts_loop (F := FU) h hv bl.length FU 0 (Nat.le_refl _) (by unfold FU; omega)
  rw [Nat.sub_self] at this
  rw [show (0 : Int32) = nI 0 from rfl] at this ⊢
  rw [this]
  rfl
theorem st_count : St_count Inv := by
  intro S x1 hI
  obtain ⟨⟨len, tx, -, t2, t3, -⟩, ⟨bl, hv, hb, hm, ⟨al, hs, hun, ⟨old, -, -, -, c6, -⟩, ⟨k, -, -, c7, -⟩⟩⟩, ⟨hl, cl, su, -, ⟨⟨a1, -⟩, ⟨a2, -⟩, a3, -⟩, ⟨⟨b1, -⟩, ⟨b2, -⟩, b3, -⟩⟩, ⟨sl, -, s1, s2⟩, -⟩ := hI
  unfold fX10_count fX11_count
  by_cases e : x1 = 0
  · rw [if_pos e, if_pos e]; exact ⟨_, _, rfl, rfl, t2.trans t3.symm⟩
  rw [if_neg e, if_neg e]
  by_cases e : x1 = 1
  · rw [if_pos e, if_pos e]; exact ⟨_, _, rfl, rfl, hb.1.trans hm.1.symm⟩
  rw [if_neg e, if_neg e]
  by_cases e : x1 = 2
  · rw [if_pos e, if_pos e]; exact ⟨_, _, rfl, rfl, a1.trans b1.symm⟩
  rw [if_neg e, if_neg e]
  by_cases e : x1 = 3
  · rw [if_pos e, if_pos e, allH hb hv, cts hm hv]; exact ⟨_, _, rfl, rfl, rfl⟩
  rw [if_neg e, if_neg e]
  by_cases e : x1 = 4
  · rw [if_pos e, if_pos e]; exact ⟨_, _, rfl, rfl, s1.1.trans s2.1.symm⟩
  rw [if_neg e, if_neg e]
  by_cases e : x1 = 5
  · rw [if_pos e, if_pos e]; exact ⟨_, _, rfl, rfl, by rw [c6, c7, und_len _ _ _ hun]⟩
  rw [if_neg e, if_neg e]
  by_cases e : x1 = 6
  · rw [if_pos e, if_pos e]; exact ⟨_, _, rfl, rfl, a2.trans b2.symm⟩
  rw [if_neg e, if_neg e]
  by_cases e : x1 = 7
  · rw [if_pos e, if_pos e]; exact ⟨_, _, rfl, rfl, a3.trans b3.symm⟩
  rw [if_neg e, if_neg e]
  exact ⟨_, _, rfl, rfl, rfl⟩
theorem RS_push {sl : List (Nat × Nat)} {n : Int32} {ft fc : Nat → Int32} {t cs : Nat} (h : RS sl n ft fc) : RS (sl ++ [(t, cs)]) (n + 1) (upd ft sl.length (nI t)) (upd fc sl.length (nI cs)) := by
  refine ⟨by rw [h.1, nI_1, List.length_append]; rfl, fun i q hq => ?_⟩
  by_cases hi : i < sl.length
  · rw [List.getElem?_append_left hi] at hq
    have := h.2 i q hq
    unfold upd
    rw [if_neg (by omega), if_neg (by omega)]
    exact this
  · rw [List.getElem?_append_right (by omega)] at hq
    have h0 : i - sl.length < 1 := (List.getElem?_eq_some_iff.mp hq).1
    have e : i = sl.length := by omega
    subst e
    rw [Nat.sub_self] at hq
    cases hq
    unfold upd
    rw [if_pos rfl, if_pos rfl]
    exact ⟨rfl, rfl⟩
theorem st_sight : St_sight Inv := by
  intro S x1 x2 hI
  obtain ⟨hT, hB, hG, ⟨sl, hv, s1, s2⟩, hK0, hK1⟩ := hI
  have hI : Inv S := ⟨hT, hB, hG, ⟨sl, hv, s1, s2⟩, hK0, hK1⟩
  have h6 := hv.1
  have hu : ∀ (S : SS), uS (uS S 11 (S 11)) 20 (S 20) = S := fun S => funext fun j => by
    unfold uS
    by_cases h1 : j = 20
    · rw [if_pos h1, h1]
    · rw [if_neg h1]
      by_cases h2 : j = 11
      · rw [if_pos h2, h2]
      · rw [if_neg h2]
  unfold fX10_sight fX11_sight
  rcases rng x1 16 (by omega) with ⟨t, ht, rfl⟩ | hx
  · rw [(min_in ht).1, (min_in ht).2, bd_some, bd_some, if1, if1, show (1024 : Int32) = nI 1024 from rfl, show (1023 : Int64) = (nI 1023).toInt64 from rfl]
    rcases rng x2 1024 (by omega) with ⟨cs, hc, rfl⟩ | hx
    · rw [bel_in hc (by omega), in_in (by omega) (by omega), bd_some, bd_some, if1, if1]
      by_cases hl : sl.length = 6
      · rw [s1.1, hl, if_neg (show ¬ nI 6 < (6 : Int32) by decide), s2.1, hl, if_pos (show nI 6 = (6 : Int32) from rfl)]
        exact ⟨_, _, rfl, rfl, rfl, by rw [hu]; exact hI⟩
      · have hlt : sl.length < 6 := by omega
        unfold fX7_add
        rw [show (6 : Int32) = nI 6 from rfl, s1.1, s2.1, if_pos (nI_lt hlt (by omega)), if_neg (nI_ge hlt (by omega)), if_neg (nI_in hlt (by omega)), if_neg (fun e => hl ((nI_eq (by omega) (by omega)).mp e)), if_neg (nI_in hlt (by omega)), nI_clamp (by omega)]
        simp only [nm_go, bd_some, st_A1, s1.1, s2.1, if_neg (nI_in hlt (show 6 < 2 ^ 31 by omega)), nI_clamp (show sl.length < 2 ^ 31 by omega)]
        rw [if_neg (ckd hlt (by omega)), if_neg (ckd hlt (by omega))]
        refine ⟨_, _, rfl, rfl, ?_⟩
        refine ⟨?_, hT, hB, hG, ⟨sl ++ [(t, cs)], ⟨by rw [List.length_append]; show sl.length + 1 ≤ 6; omega, fun q hq => ?_⟩, ?_, ?_⟩, hK0, hK1⟩
        · rfl
        · rcases List.mem_append.mp hq with h | h
          · exact hv.2 q h
          · rw [List.mem_singleton.mp h]
            exact ⟨ht, hc⟩
        · exact RS_push (show RS sl (nI sl.length) ((S 11).2.1 0) ((S 11).2.1 1) from s1.1 ▸ s1)
        · exact RS_push (show RS sl (nI sl.length) ((S 20).2.1 24) ((S 20).2.1 25) from s2.1 ▸ s2)
    · rw [bel_out hx, in_out (by omega) hx]
      exact ⟨_, _, rfl, rfl, rfl, by rw [hu]; exact hI⟩
  · rw [(min_out hx).1, (min_out hx).2]
    exact ⟨_, _, rfl, rfl, rfl, by rw [hu]; exact hI⟩
