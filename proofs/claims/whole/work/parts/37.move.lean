/-! move, take, back -/
def adN (a b : Nat) : Nat := if a < b then b - a else a - b
theorem adC : ∀ a : Fin 16, ∀ b : Fin 16, (if 0 ≤ nI a.1 - nI b.1 then nI a.1 - nI b.1 else 0 - (nI a.1 - nI b.1)) = nI (adN a.1 b.1) := by decide +kernel
theorem adM : ∀ a : Fin 16, ∀ b : Fin 16, fX11_without 0 (nI b.1 - nI a.1) = some (nI (adN a.1 b.1)) := by decide +kernel
theorem wo_F (F : Nat) (x : Int32) : fX11_without F x = fX11_without 0 x := rfl
theorem ins_era {bl : List B3} {j : Nat} {q : B3} (hq : bl[j]? = some q) : (bl.eraseIdx j).insertIdx j q = bl := by
  have hj := (List.getElem?_eq_some_iff.mp hq).1
  apply List.ext_getElem?
  intro i
  rw [List.getElem?_insertIdx, List.getElem?_eraseIdx, List.getElem?_eraseIdx, List.length_eraseIdx, if_pos hj]
  by_cases h1 : i < j
  · rw [if_pos h1, if_pos h1]
  · rw [if_neg h1]
    by_cases h2 : i = j
    · rw [if_pos h2, if_pos (by omega), h2, hq]
    · rw [if_neg h2, if_neg (by omega), show i - 1 + 1 = i by omega]
theorem era_set {bl : List B3} {j : Nat} {q : B3} : (bl.set j q).eraseIdx j = bl.eraseIdx j := by
  apply List.ext_getElem?
  intro i
  rw [List.getElem?_eraseIdx, List.getElem?_eraseIdx]
  by_cases h1 : i < j
  · rw [if_pos h1, if_pos h1, List.getElem?_set_ne (by omega)]
  · rw [if_neg h1, if_neg h1, List.getElem?_set_ne (by omega)]
theorem RB_set {bl : List B3} {σ : ST} {j : Nat} {q : B3} {x y : Nat} (h : RB bl σ) (hq : bl[j]? = some q) : RB (bl.set j (q.1, x, y)) (sA (sA σ 1 j (nI x)) 2 j (nI y)) := by
  have hj := (List.getElem?_eq_some_iff.mp hq).1
  refine ⟨by rw [List.length_set]; exact h.1, fun i p hp => ?_⟩
  show σ.2.1 0 i = _ ∧ upd (σ.2.1 1) j (nI x) i = _ ∧ upd (σ.2.1 2) j (nI y) i = _
  unfold upd
  by_cases e : i = j
  · subst e
    rw [List.getElem?_set_self hj] at hp
    cases hp
    rw [if_pos rfl, if_pos rfl]
    exact ⟨(h.2 i q hq).1, rfl, rfl⟩
  · rw [List.getElem?_set_ne (Ne.symm e)] at hp
    rw [if_neg e, if_neg e]
    exact h.2 i p hp
theorem RB3_set {bl : List B3} {n : Int32} {f : Nat → Int32} {j : Nat} {q : B3} {x y : Nat} (h : RB3 bl n f) (hq : bl[j]? = some q) : RB3 (bl.set j (q.1, x, y)) n (upd (upd f (3 * j + 1) (nI x)) (3 * j + 2) (nI y)) := by
  have hj := (List.getElem?_eq_some_iff.mp hq).1
  refine ⟨by rw [List.length_set]; exact h.1, fun i p hp => ?_⟩
  unfold upd
  by_cases e : i = j
  · subst e
    rw [List.getElem?_set_self hj] at hp
    cases hp
    refine ⟨?_, ?_, ?_⟩
    · rw [if_neg (by omega), if_neg (by omega)]; exact (h.2 i q hq).1
    · rw [if_neg (by omega), if_pos rfl]
    · rw [if_pos rfl]
  · rw [List.getElem?_set_ne (Ne.symm e)] at hp
    obtain ⟨a, b, c⟩ := h.2 i p hp
    refine ⟨?_, ?_, ?_⟩
    · rw [if_neg (by omega), if_neg (by omega)]; exact a
    · rw [if_neg (by omega), if_neg (by omega)]; exact b
    · rw [if_neg (by omega), if_neg (by omega)]; exact c
theorem vB_set {bl : List B3} {j : Nat} {q p : B3} (h : vB bl) (hq : okB p) : vB (bl.set j p) := by
  refine ⟨by rw [List.length_set]; exact h.1, fun x hx => ?_⟩
  rcases List.mem_or_eq_of_mem_set hx with g | g
  · exact h.2 x g
  · rw [g]; exact hq
theorem st_move : St_move Inv := by
  intro S x1 x2 x3 hI
  have hI0 := hI
  obtain ⟨hT, ⟨bl, hv, hb, hm, ⟨al, hs, hun, hac, ham⟩⟩, hG, hS, hK0, hK1⟩ := hI
  have h8 := hv.1
  unfold fX10_move fX11_move
  rcases rng x1 bl.length (by omega) with ⟨j, hj, rfl⟩ | hx
  rotate_left
  · rw [has_out hb hx, isb_out hm h8 hx]
    exact ⟨_, _, rfl, rfl, rfl, by rw [uS3]; exact hI0⟩
  obtain ⟨q, hq, hqm⟩ := at_get hj
  obtain ⟨o0, o1, o2⟩ := hv.2 q hqm
  rw [has_in hb h8 hj, isb_in hm h8 hj, bd_some, bd_some, if1, if1]
  by_cases hc : (x2 < 0 ∨ nI 10 ≤ x2) ∨ (x3 < 0 ∨ nI 6 ≤ x3)
  · rw [(cell_out hc).1, (cell_out hc).2]
    exact ⟨_, _, rfl, rfl, rfl, by rw [uS3]; exact hI0⟩
  obtain ⟨x, hx, rfl⟩ := (rng x2 10 (by omega)).resolve_right (fun h => hc (Or.inl h))
  obtain ⟨y, hy, rfl⟩ := (rng x3 6 (by omega)).resolve_right (fun h => hc (Or.inr h))
  rw [(cell_in hx hy).1, (cell_in hx hy).2, bd_some, bd_some, if1, if1, sta hb hv hx hy, ist hm hv hx hy, bd_some, bd_some]
  by_cases ht : tkB bl x y = true
  · rw [if_pos ht, if1, if1]
    exact ⟨_, _, rfl, rfl, rfl, by rw [uS3]; exact hI0⟩
  obtain ⟨b0, b1, b2⟩ := hb.2 j q hq
  obtain ⟨c0, c1, c2⟩ := hm.2 j q hq
  obtain ⟨σa', r1, r2⟩ := rem_act (so := 1) (j := j) (q := q) hac hb h8 hq
  obtain ⟨σ', kk, nn, row, k1, k2, k3⟩ := ram_push ham hm h8
  rw [if_neg ht, if0, if0, if_neg (nI_in (show j < 8 by omega) (by omega)), nI_clamp (by omega), b1, b2, k1, bd_some]
  subst k2
  simp only [st_I1, st_I2, st_W1, st_W2, st_A1, nm_go, Nat.reduceEqDiff, reduceIte]
  rw [show (1 : Int32) = nI 1 from rfl, show (2 : Int32) = nI 2 from rfl, m3, m3, if_neg (nI_in (show 3 * j + 1 < 24 by omega) (by omega)), nI_clamp (show 3 * j + 1 < 2 ^ 31 by omega), c1, adC ⟨x, by omega⟩ ⟨q.2.1, by omega⟩, adC ⟨y, by omega⟩ ⟨q.2.2, by omega⟩, wo_F, adM ⟨x, by omega⟩ ⟨q.2.1, by omega⟩, bd_some, if_neg (nI_in (show 3 * j + 2 < 24 by omega) (by omega)), nI_clamp (show 3 * j + 2 < 2 ^ 31 by omega), c2, wo_F, adM ⟨y, by omega⟩ ⟨q.2.2, by omega⟩, bd_some, r1, bd_some]
  refine ⟨_, _, rfl, rfl, ?_⟩
  refine ⟨rfl, hT, ⟨bl.set j (q.1, x, y), vB_set (q := q) hv ⟨o0, hx, hy⟩, RB_set hb hq, RB3_set hm hq, ⟨((1, j, q) :: al).take 16, (bl :: hs).take 16, und_take 16 _ _ _ ⟨⟨⟨o0, o1, o2⟩, Or.inr (Or.inl ⟨rfl, by rw [List.length_set]; exact hj⟩)⟩, ?_, hv, hun⟩, r2, k3⟩⟩, hG, hS, hK0, hK1⟩
  show ((bl.set j (q.1, x, y)).eraseIdx j).insertIdx j q = bl
  rw [era_set, ins_era hq]
theorem tak_loop {F : Nat} {v1 : Int32} {N : Nat} (h8 : N < 8) : ∀ (r n i : Nat) (σ : ST), σ.1 11 = nI N → i + r = 3 * N → r < n → ∃ f : Nat → Int32, gX11_take_28 F v1 n (nI i) σ = some (nI (3 * N), sW σ 7 f) ∧ ∀ j, f j = if i ≤ j ∧ j < 3 * N then σ.2.1 7 (j + 3) else σ.2.1 7 j := by
  intro r
  induction r with
  | zero =>
    intro n i σ hs hi hn
    obtain ⟨m, rfl⟩ : ∃ m, n = m + 1 := ⟨n - 1, by omega⟩
    have e : i = 3 * N := by omega
    subst e
    refine ⟨σ.2.1 7, ?_, fun j => by rw [if_neg (by omega)]⟩
    show gbX11_take_28 F v1 _ (nI (3 * N)) σ = _
    unfold gbX11_take_28
    rw [hs, m30, if_pos (nI_le (Nat.le_refl _) (by omega)), sW_same]
  | succ r ih =>
    intro n i σ hs hi hn
    obtain ⟨m, rfl⟩ : ∃ m, n = m + 1 := ⟨n - 1, by omega⟩
    obtain ⟨f, h1, h3⟩ := ih m (i + 1) (sA σ 7 i (σ.2.1 7 (i + 3))) hs (by omega) (by omega)
    refine ⟨f, ?_, fun j => ?_⟩
    · show gbX11_take_28 F v1 (gX11_take_28 F v1 m) (nI i) σ = _
      unfold gbX11_take_28
      rw [hs, m30, if_neg (nI_ge (by omega) (by omega)), show (3 : Int32) = nI 3 from rfl, nI_add, if_neg (nI_in (show i + 3 < 24 by omega) (by omega)), if_neg (nI_in (show i < 24 by omega) (by omega)), nI_clamp (by omega), nI_clamp (by omega), nm_go, nI_1, h1, sA_eq, sW_sW]
    · rw [h3]
      have e : ∀ t, (sA σ 7 i (σ.2.1 7 (i + 3))).2.1 7 t = if t = i then σ.2.1 7 (i + 3) else σ.2.1 7 t := fun t => rfl
      rw [e, e]
      by_cases h4 : i + 1 ≤ j ∧ j < 3 * N
      · rw [if_pos h4, if_neg (by omega), if_pos (by omega)]
      · rw [if_neg h4]
        by_cases h5 : j = i
        · rw [if_pos h5, if_pos (by omega), h5]
        · rw [if_neg h5, if_neg (by omega)]
theorem st_take : St_take Inv := by
  intro S x1 hI
  have hI0 := hI
  obtain ⟨hT, ⟨bl, hv, hb, hm, ⟨al, hs, hun, hac, ham⟩⟩, hG, hS, hK0, hK1⟩ := hI
  have h8 := hv.1
  unfold fX10_take fX11_take
  rcases rng x1 bl.length (by omega) with ⟨j, hj, rfl⟩ | hx
  rotate_left
  · rw [has_out hb hx, isb_out hm h8 hx]
    exact ⟨_, _, rfl, rfl, rfl, by rw [uS3]; exact hI0⟩
  obtain ⟨q, hq, hqm⟩ := at_get hj
  obtain ⟨o0, o1, o2⟩ := hv.2 q hqm
  obtain ⟨σa', r1, r2⟩ := rem_act (so := 2) (j := j) (q := q) hac hb h8 hq
  obtain ⟨σb', i1, i2⟩ := rem hb h8 hj
  obtain ⟨σ', kk, nn, row, k1, k2, k3⟩ := ram_push ham hm h8
  rw [has_in hb h8 hj, isb_in hm h8 hj, bd_some, bd_some, if1, if1, k1, bd_some]
  subst k2
  simp only [st_I1, st_I2, st_W1, st_W2, st_A1, nm_go, Nat.reduceEqDiff, reduceIte, hm.1]
  rw [show (2 : Int32) = nI 2 from rfl, r1, bd_some, i1, bd_some]
  have hN : bl.length = (bl.length - 1) + 1 := by omega
  have eN : nI bl.length - 1 = nI (bl.length - 1) := by rw [hN, nI_pred]; rfl
  rw [eN, m30]
  obtain ⟨f, t1, t2⟩ := tak_loop (F := FU) (v1 := nI j) (N := bl.length - 1) (by omega) (3 * (bl.length - 1) - 3 * j) FU (3 * j) (sI (sI (sI (sW (S 20) 21 row) 20 (nI kk)) 19 (nI nn)) 11 (nI (bl.length - 1))) rfl (by omega) (by unfold FU; omega)
  rw [t1, bd_some]
  have hlen : (bl.eraseIdx j).length = bl.length - 1 := by rw [List.length_eraseIdx, if_pos hj]
  refine ⟨_, _, rfl, rfl, ?_⟩
  refine ⟨?_, hT, ⟨bl.eraseIdx j, ⟨by omega, fun p hp => hv.2 p (List.mem_of_mem_eraseIdx hp)⟩, i2, ⟨?_, fun i p hp => ?_⟩, ⟨((2, j, q) :: al).take 16, (bl :: hs).take 16, und_take 16 _ _ _ ⟨⟨⟨o0, o1, o2⟩, Or.inr (Or.inr ⟨rfl, by rw [hlen]; show j ≤ _; omega, by omega⟩)⟩, ?_, hv, hun⟩, r2, k3⟩⟩, hG, hS, hK0, hK1⟩
  · show σb'.1 3 = nI (bl.length - 1)
    rw [i2.1, hlen]
  · show nI (bl.length - 1) = _
    rw [hlen]
  · show f (3 * i) = _ ∧ f (3 * i + 1) = _ ∧ f (3 * i + 2) = _
    have e : ∀ t, (sI (sI (sI (sW (S 20) 21 row) 20 (nI kk)) 19 (nI nn)) 11 (nI (bl.length - 1))).2.1 7 t = (S 20).2.1 7 t := fun t => rfl
    have hi := (List.getElem?_eq_some_iff.mp hp).1
    rw [List.getElem?_eraseIdx] at hp
    rw [t2, t2, t2]
    by_cases h4 : i < j
    · rw [if_pos h4] at hp
      rw [if_neg (by omega), if_neg (by omega), if_neg (by omega)]
      exact hm.2 i p hp
    · rw [if_neg h4] at hp
      rw [if_pos (by omega), if_pos (by omega), if_pos (by omega)]
      have := hm.2 (i + 1) p hp
      rw [show 3 * (i + 1) = 3 * i + 3 by omega] at this
      exact ⟨this.1, this.2.1, this.2.2⟩
  · show (bl.eraseIdx j).insertIdx j q = bl
    exact ins_era hq
theorem bk_loop {F k : Nat} (hk : k < 16) : ∀ (r n i : Nat) (σ : ST), σ.1 20 = nI k → i + r = 24 → r < n → gX11_back_36 F n (nI i) (sW σ 7 (va_cpy (σ.2.1 21) (σ.2.1 7) (25 * k) 0 i)) = some (nI 24, sW σ 7 (va_cpy (σ.2.1 21) (σ.2.1 7) (25 * k) 0 24)) := by
  intro r
  induction r with
  | zero =>
    intro n i σ hs hi hn
    obtain ⟨m, rfl⟩ : ∃ m, n = m + 1 := ⟨n - 1, by omega⟩
    show gbX11_back_36 F _ (nI i) _ = _
    unfold gbX11_back_36
    rw [if_pos (by rw [show i = 24 by omega]; decide), show i = 24 by omega]
  | succ r ih =>
    intro n i σ hs hi hn
    obtain ⟨m, rfl⟩ : ∃ m, n = m + 1 := ⟨n - 1, by omega⟩
    show gbX11_back_36 F (gX11_back_36 F m) (nI i) _ = _
    unfold gbX11_back_36
    rw [show (24 : Int32) = nI 24 from rfl, if_neg (nI_ge (by omega) (by omega)), st_W1, hs, m25, if_neg (nI_in (show 25 * k + i < 400 by omega) (by omega)), if_neg (nI_in (show i < 24 by omega) (by omega)), nI_clamp (by omega), nI_clamp (by omega), nm_go, sA_sW, st_W2, if_neg (by decide), nI_1]
    have e := cpy_s (σ.2.1 21) (σ.2.1 7) (25 * k) 0 i
    rw [Nat.zero_add] at e
    rw [e]
    exact ih m (i + 1) σ hs (by omega) (by omega)
theorem st_back : St_back Inv := by
  intro S hI
  have hI0 := hI
  obtain ⟨hT, ⟨bl, hv, hb, hm, ⟨al, hs, hun, hac, ham⟩⟩, hG, hS, hK0, hK1⟩ := hI
  have h8 := hv.1
  obtain ⟨old, ho, hl, h5, h6, hat⟩ := hac
  obtain ⟨k, hk, hl2, h19, h20, hatm⟩ := ham
  unfold fX10_back fX11_back
  cases al with
  | nil =>
    cases hs with
    | cons h hs => exact hun.elim
    | nil =>
      rw [h6, h19, if_pos (by rfl), if_pos (by rfl)]
      exact ⟨_, _, rfl, rfl, rfl, by rw [uS3]; exact hI0⟩
  | cons a al =>
    cases hs with
    | nil => exact hun.elim
    | cons h hs =>
      obtain ⟨⟨⟨o0, o1, o2⟩, hso⟩, hu, hvh, hun2⟩ := hun
      have hlen : al.length = hs.length := und_len _ _ _ hun2
      have hl' : al.length + 1 ≤ 16 := hl
      obtain ⟨hh8, hb3⟩ := hatm 0 h rfl
      rw [show (k + 15 - 0) % 16 = (k + 15) % 16 by omega] at hb3
      obtain ⟨e0, e1, e2, e3, e4⟩ := hat 0 a rfl
      have h6' : (S 9).1 6 = nI (al.length + 1) := h6
      have h19' : (S 20).1 19 = nI (hs.length + 1) := h19
      have epos : (old + (a :: al).length + 15 - 0) % 16 = (old + al.length) % 16 := by
        show (old + (al.length + 1) + 15 - 0) % 16 = _
        omega
      rw [epos] at e0 e1 e2 e3 e4
      -- the class
      have hc : ∃ σb', fX0_undo FU (S 9) (S 7) = some (sI (S 9) 6 (nI al.length), σb') ∧ RB h σb' := by
        unfold fX0_undo
        rw [h6', if_neg (nI_ne0 (by omega) (by omega)), nm_go, nI_pred]
        have f5 : (sI (S 9) 6 (nI al.length)).1 5 = nI old := h5
        have f6 : (sI (S 9) 6 (nI al.length)).1 6 = nI al.length := rfl
        have f0 : (sI (S 9) 6 (nI al.length)).2.1 0 ((old + al.length) % 16) = nI a.1 := e0
        have f1 : (sI (S 9) 6 (nI al.length)).2.1 1 ((old + al.length) % 16) = nI a.2.1 := e1
        have f2 : (sI (S 9) 6 (nI al.length)).2.1 2 ((old + al.length) % 16) = nI a.2.2.1 := e2
        have f3 : (sI (S 9) 6 (nI al.length)).2.1 3 ((old + al.length) % 16) = nI a.2.2.2.1 := e3
        have f4 : (sI (S 9) 6 (nI al.length)).2.1 4 ((old + al.length) % 16) = nI a.2.2.2.2 := e4
        rw [f5, f6, nI_add, mod16 _ (by omega), nm_go, if_neg (nI_in (show (old + al.length) % 16 < 16 by omega) (by omega)), nI_clamp (by omega), f0, f1, f2, f3, f4]
        rcases hso with ⟨s0, s1⟩ | ⟨s0, s1⟩ | ⟨s0, s1, s2⟩
        · rw [s0, if_neg (show ¬ nI 0 = (2 : Int32) by decide)]
          obtain ⟨σb', i1, i2⟩ := rem hb h8 s1
          rw [i1, bd_some, if_pos (show nI 0 = (0 : Int32) from rfl)]
          refine ⟨σb', rfl, ?_⟩
          rw [← hu]
          unfold un1
          rw [if_pos s0]
          exact i2
        · rw [s0, if_neg (show ¬ nI 1 = (2 : Int32) by decide)]
          obtain ⟨σb', i1, i2⟩ := rem hb h8 s1
          have hle : (bl.eraseIdx a.2.1).length = bl.length - 1 := by rw [List.length_eraseIdx, if_pos s1]
          obtain ⟨σb2, j1, j2⟩ := ins (q := a.2.2) i2 (by omega) (show a.2.1 ≤ _ by omega)
          rw [i1, bd_some, if_neg (show ¬ nI 1 = (0 : Int32) by decide), j1, bd_some]
          refine ⟨σb2, rfl, ?_⟩
          rw [← hu]
          unfold un1
          rw [if_neg (by omega), if_pos s0]
          exact j2
        · rw [s0, if_pos (show nI 2 = (2 : Int32) from rfl), if_neg (show ¬ nI 2 = (0 : Int32) by decide)]
          obtain ⟨σb2, j1, j2⟩ := ins (q := a.2.2) hb s2 s1
          rw [j1, bd_some]
          refine ⟨σb2, rfl, ?_⟩
          rw [← hu]
          unfold un1
          rw [if_neg (by omega), if_neg (by omega)]
          exact j2
      obtain ⟨σb', c1, c2⟩ := hc
      rw [h6', if_neg (nI_ne0 (by omega) (by omega)), c1, bd_some, h19', if_neg (nI_ne0 (by omega) (by omega)), nm_go, nI_pred]
      simp only [st_I1, st_I2, Nat.reduceEqDiff, reduceIte, h20]
      rw [show (15 : Int32) = nI 15 from rfl, nI_add, mod16 _ (by omega), nm_go]
      have h1 := bk_loop (F := FU) (k := (k + 15) % 16) (by omega) 24 FU 0 (sI (sI (S 20) 19 (nI hs.length)) 20 (nI ((k + 15) % 16))) rfl (by omega) (by unfold FU; omega)
      rw [cpy_0, sW_same] at h1
      have h1' : gX11_back_36 FU FU 0 (sI (sI (S 20) 19 (nI hs.length)) 20 (nI ((k + 15) % 16))) = _ := h1
      rw [h1', bd_some]
      simp only [st_W1, st_W2, st_W3, st_I1, st_I2, Nat.reduceEqDiff, reduceIte]
      rw [show (24 : Int32) = nI 24 from rfl, m25, if_neg (nI_in (show 25 * ((k + 15) % 16) + 24 < 400 by omega) (by omega)), nI_clamp (by omega), nm_go]
      refine ⟨_, _, rfl, rfl, ?_⟩
      refine ⟨?_, hT, ⟨h, hvh, c2, ⟨hb3.1, fun i q hq => ?_⟩, ⟨al, hs, hun2, ⟨old, ho, by omega, h5, rfl, fun j x hx => ?_⟩, ⟨(k + 15) % 16, by omega, by omega, rfl, rfl, fun j x hx => ?_⟩⟩⟩, hG, hS, hK0, hK1⟩
      · show nI al.length = nI hs.length
        rw [hlen]
      · have hi := (List.getElem?_eq_some_iff.mp hq).1
        obtain ⟨d0, d1, d2⟩ := hb3.2 i q hq
        have e : ∀ t, t < 24 → va_cpy ((S 20).2.1 21) ((S 20).2.1 7) (25 * ((k + 15) % 16)) 0 24 t = (S 20).2.1 21 (25 * ((k + 15) % 16) + t) := fun t ht => by
          have := cpy_in (f := (S 20).2.1 21) (g := (S 20).2.1 7) (a := 25 * ((k + 15) % 16)) (b := 0) ht
          rw [Nat.zero_add] at this
          exact this
        exact ⟨(e _ (by omega)).trans d0, (e _ (by omega)).trans d1, (e _ (by omega)).trans d2⟩
      · have := hat (j + 1) x hx
        rw [show (old + (a :: al).length + 15 - (j + 1)) % 16 = (old + al.length + 15 - j) % 16 by show (old + (al.length + 1) + 15 - (j + 1)) % 16 = _; omega] at this
        exact this
      · have hj : j < hs.length := (List.getElem?_eq_some_iff.mp hx).1
        have := hatm (j + 1) x hx
        rw [show (k + 15 - (j + 1)) % 16 = ((k + 15) % 16 + 15 - j) % 16 by omega] at this
        exact this
