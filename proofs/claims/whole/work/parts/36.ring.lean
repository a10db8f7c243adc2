/-! the rows of acts -/
def wrA (σ : ST) (p : Nat) (a : A5) : ST := sA (sA (sA (sA (sA σ 0 p (nI a.1)) 1 p (nI a.2.1)) 2 p (nI a.2.2.1)) 3 p (nI a.2.2.2.1)) 4 p (nI a.2.2.2.2)
theorem atA_new (σ : ST) (p : Nat) (a : A5) : atA a (wrA σ p a) p := by
  have u : ∀ (f : Nat → Int32) (v : Int32), upd f p v p = v := fun f v => by unfold upd; rw [if_pos rfl]
  exact ⟨u (σ.2.1 0) _, u (σ.2.1 1) _, u (σ.2.1 2) _, u (σ.2.1 3) _, u (σ.2.1 4) _⟩
theorem atA_old {σ : ST} {p p' : Nat} {a x : A5} (hp : p' ≠ p) (h : atA x σ p') : atA x (wrA σ p a) p' := by
  have u : ∀ (f : Nat → Int32) (v : Int32), upd f p v p' = f p' := fun f v => by unfold upd; rw [if_neg hp]
  obtain ⟨h0, h1, h2, h3, h4⟩ := h
  exact ⟨(u (σ.2.1 0) _).trans h0, (u (σ.2.1 1) _).trans h1, (u (σ.2.1 2) _).trans h2, (u (σ.2.1 3) _).trans h3, (u (σ.2.1 4) _).trans h4⟩
theorem mod16 (n : Nat) (h : n < 2 ^ 31) : nI n - nI n / 16 * 16 = nI (n % 16) := pk_rem (d := 16) h (by omega) (by omega)
theorem rem_act {al : List A5} {bl : List B3} {σa σb : ST} {j so : Nat} {q : B3} (h : RAc al σa) (hb : RB bl σb) (hn : bl.length ≤ 8) (hq : bl[j]? = some q) : ∃ σ', fX0_remember FU σa σb (nI so) (nI j) = some σ' ∧ RAc (((so, j, q) :: al).take 16) σ' := by
  obtain ⟨old, ho, hl, h5, h6, hat⟩ := h
  have hj := (List.getElem?_eq_some_iff.mp hq).1
  obtain ⟨b0, b1, b2⟩ := hb.2 j q hq
  unfold fX0_remember
  rw [has_in hb hn hj, bd_some, if1, h6]
  by_cases hf : al.length = 16
  · rw [if_pos (by rw [hf]; rfl)]
    have e : fX0_remember FU σa σb (nI so) (nI j) = fX0_remember FU σa σb (nI so) (nI j) := rfl
    simp only [nm_go, st_I1, st_I2, st_A1, if_pos, reduceIte, Nat.reduceEqDiff, h5, h6, hf]
    rw [nI_1, mod16 (old + 1) (by omega), show nI 16 - 1 = nI 15 from rfl, nI_add, mod16 _ (by omega), if_neg (nI_in (show ((old + 1) % 16 + 15) % 16 < 16 by omega) (by omega)), if_neg (nI_in (show j < 8 by omega) (by omega)), nI_clamp (by omega), nI_clamp (by omega), b0, b1, b2]
    refine ⟨_, rfl, (old + 1) % 16, by omega, by simp; omega, rfl, ?_, fun i a hi => ?_⟩
    · show nI 15 + 1 = nI _
      rw [List.length_take]
      simp [hf, nI_1]
    · have hlen : (((so, j, q) :: al).take 16).length = 16 := by rw [List.length_take]; simp [hf]
      rw [hlen]
      have hi16 : i < 16 := by
        have := (List.getElem?_eq_some_iff.mp hi).1
        omega
      rw [List.getElem?_take, if_pos hi16] at hi
      show atA a (wrA σa (((old + 1) % 16 + 15) % 16) (so, j, q)) _
      cases i with
      | zero =>
        cases hi
        rw [show ((old + 1) % 16 + 16 + 15 - 0) % 16 = ((old + 1) % 16 + 15) % 16 by omega]
        exact atA_new _ _ _
      | succ i =>
        refine atA_old (by omega) ?_
        have := hat i a hi
        rw [hf] at this
        rw [show ((old + 1) % 16 + 16 + 15 - (i + 1)) % 16 = (old + 16 + 15 - i) % 16 by omega]
        exact this
  · rw [if_neg (show ¬ nI al.length = (16 : Int32) from fun e => hf ((nI_eq (by omega) (by omega)).mp e))]
    simp only [nm_go, st_I1, st_I2, st_A1, h5, h6]
    rw [nI_add, mod16 _ (by omega), if_neg (nI_in (show (old + al.length) % 16 < 16 by omega) (by omega)), if_neg (nI_in (show j < 8 by omega) (by omega)), nI_clamp (by omega), nI_clamp (by omega), b0, b1, b2]
    have hlen : (((so, j, q) :: al).take 16).length = al.length + 1 := by
      rw [List.length_take]
      simp
      omega
    refine ⟨_, rfl, old, ho, by rw [hlen]; omega, h5, ?_, fun i a hi => ?_⟩
    · show nI al.length + 1 = nI _
      rw [hlen, nI_1]
    · rw [hlen]
      have hi16 : i < al.length + 1 := by
        have := (List.getElem?_eq_some_iff.mp hi).1
        omega
      rw [List.getElem?_take, if_pos (by omega)] at hi
      show atA a (wrA σa ((old + al.length) % 16) (so, j, q)) _
      cases i with
      | zero =>
        cases hi
        rw [show (old + (al.length + 1) + 15 - 0) % 16 = (old + al.length) % 16 by omega]
        exact atA_new _ _ _
      | succ i =>
        refine atA_old (by omega) ?_
        rw [show (old + (al.length + 1) + 15 - (i + 1)) % 16 = (old + al.length + 15 - i) % 16 by omega]
        exact hat i a hi
theorem m25 (k i : Nat) : (25 : Int32) * nI k + nI i = nI (25 * k + i) := by rw [show (25 : Int32) = nI 25 from rfl, pk_mul, nI_add]
/-- the reference keeps its bodies -/
theorem ka_loop {F k : Nat} (hk : k < 16) : ∀ (r n i : Nat) (σ : ST), σ.1 20 = nI k → i + r = 24 → r < n → gX11_keepAct_2 F n (nI i) (sW σ 21 (va_cpy (σ.2.1 7) (σ.2.1 21) 0 (25 * k) i)) = some (nI 24, sW σ 21 (va_cpy (σ.2.1 7) (σ.2.1 21) 0 (25 * k) 24)) := by
  intro r
  induction r with
  | zero =>
    intro n i σ hs hi hn
    obtain ⟨m, rfl⟩ : ∃ m, n = m + 1 := ⟨n - 1, by omega⟩
    show gbX11_keepAct_2 F _ (nI i) _ = _
    unfold gbX11_keepAct_2
    rw [if_pos (by rw [show i = 24 by omega]; decide), show i = 24 by omega]
  | succ r ih =>
    intro n i σ hs hi hn
    obtain ⟨m, rfl⟩ : ∃ m, n = m + 1 := ⟨n - 1, by omega⟩
    show gbX11_keepAct_2 F (gX11_keepAct_2 F m) (nI i) _ = _
    unfold gbX11_keepAct_2
    rw [show (24 : Int32) = nI 24 from rfl, if_neg (nI_ge (by omega) (by omega)), if_neg (nI_in (show i < 24 by omega) (by omega)), st_W1, hs, m25, if_neg (nI_in (show 25 * k + i < 400 by omega) (by omega)), nI_clamp (by omega), nI_clamp (by omega), nm_go, sA_sW, st_W2, if_neg (by decide), nI_1]
    have e := cpy_s (σ.2.1 7) (σ.2.1 21) 0 (25 * k) i
    rw [Nat.zero_add] at e
    rw [e]
    exact ih m (i + 1) σ hs (by omega) (by omega)
def rowK (σ : ST) (k : Nat) : Nat → Int32 := upd (va_cpy (σ.2.1 7) (σ.2.1 21) 0 (25 * k) 24) (25 * k + 24) (σ.1 11)
theorem ka {k n : Nat} {σ : ST} (hk : k < 16) (hn : n ≤ 16) (h20 : σ.1 20 = nI k) (h19 : σ.1 19 = nI n) : fX11_keepAct FU σ = some (sI (sI (sW σ 21 (rowK σ k)) 20 (nI ((k + 1) % 16))) 19 (nI (min (n + 1) 16))) := by
  have h1 := ka_loop (F := FU) hk 24 FU 0 σ h20 (by omega) (by unfold FU; omega)
  rw [cpy_0, sW_same] at h1
  unfold fX11_keepAct
  have h1' : gX11_keepAct_2 FU FU 0 σ = some (nI 24, sW σ 21 (va_cpy (σ.2.1 7) (σ.2.1 21) 0 (25 * k) 24)) := h1
  rw [h1', bd_some]
  simp only [st_W1, h20]
  rw [show (24 : Int32) = nI 24 from rfl, m25, if_neg (nI_in (show 25 * k + 24 < 400 by omega) (by omega)), nI_clamp (by omega), nm_go, sA_sW, nm_go]
  simp only [st_W1, st_I1, h20, h19, reduceIte, Nat.reduceEqDiff]
  rw [nI_1, mod16 _ (by omega)]
  by_cases hf : n = 16
  · subst hf
    rw [if_pos (by decide)]
    rfl
  · rw [show (16 : Int32) = nI 16 from rfl, if_neg (nI_ge (by omega) (by omega)), nm_go, nI_1, show min (n + 1) 16 = n + 1 by omega]
    rfl
theorem ram_push {hs : List (List B3)} {bl : List B3} {σ : ST} (h : RAm hs (σ.1 19) (σ.1 20) (σ.2.1 21)) (hb : RB3 bl (σ.1 11) (σ.2.1 7)) (hn : bl.length ≤ 8) : ∃ (σ' : ST) (k n : Nat) (row : Nat → Int32), fX11_keepAct FU σ = some σ' ∧ σ' = sI (sI (sW σ 21 row) 20 (nI k)) 19 (nI n) ∧ RAm ((bl :: hs).take 16) (nI n) (nI k) row := by
  obtain ⟨k, hk, hl, h19, h20, hat⟩ := h
  refine ⟨_, (k + 1) % 16, min (hs.length + 1) 16, rowK σ k, ka hk hl h20 h19, rfl, (k + 1) % 16, by omega, ?_, ?_, rfl, fun j x hx => ?_⟩
  · rw [List.length_take]; omega
  · rw [List.length_take]
    congr 1
    simp
    omega
  · have hj : j < 16 := by
      have := (List.getElem?_eq_some_iff.mp hx).1
      rw [List.length_take] at this
      omega
    rw [List.getElem?_take, if_pos hj] at hx
    cases j with
    | zero =>
      cases hx
      rw [show ((k + 1) % 16 + 15 - 0) % 16 = k by omega]
      refine ⟨hn, ?_, fun i q hq => ?_⟩
      · unfold rowK upd
        rw [if_pos rfl]
        exact hb.1
      · have hi := (List.getElem?_eq_some_iff.mp hq).1
        obtain ⟨c0, c1, c2⟩ := hb.2 i q hq
        have e : ∀ t, t < 24 → rowK σ k (25 * k + t) = σ.2.1 7 t := fun t ht => by
          unfold rowK upd
          rw [if_neg (by omega), cpy_in ht, Nat.zero_add]
        exact ⟨(e _ (by omega)).trans c0, (e _ (by omega)).trans c1, (e _ (by omega)).trans c2⟩
    | succ j =>
      obtain ⟨hx8, h1⟩ := hat j x hx
      rw [show ((k + 1) % 16 + 15 - (j + 1)) % 16 = (k + 15 - j) % 16 by omega]
      have hne : (k + 15 - j) % 16 ≠ k := by omega
      have hp : (k + 15 - j) % 16 < 16 := by omega
      generalize (k + 15 - j) % 16 = p at *
      have e : ∀ t, t < 25 → rowK σ k (25 * p + t) = σ.2.1 21 (25 * p + t) := fun t ht => by
        unfold rowK upd
        rw [if_neg (by omega), cpy_out (by omega)]
      refine ⟨hx8, (e 24 (by omega)).trans h1.1, fun i q hq => ?_⟩
      obtain ⟨c0, c1, c2⟩ := h1.2 i q hq
      have hi := (List.getElem?_eq_some_iff.mp hq).1
      exact ⟨(e _ (by omega)).trans c0, (e _ (by omega)).trans c1, (e _ (by omega)).trans c2⟩
theorem und_take : ∀ (n : Nat) (bl : List B3) (al : List A5) (hs : List (List B3)), und bl al hs → und bl (al.take n) (hs.take n)
  | 0, _, _, _, _ => by simp [und]
  | _ + 1, _, [], [], _ => trivial
  | n + 1, _, _ :: al, h :: hs, q => ⟨q.1, q.2.1, q.2.2.1, und_take n h al hs q.2.2.2⟩
  | _ + 1, _, [], _ :: _, q => q.elim
  | _ + 1, _, _ :: _, [], q => q.elim

/-! put -/
theorem uS3 (S : SS) : uS (uS (uS S 7 (S 7)) 9 (S 9)) 20 (S 20) = S := funext fun j => by
  unfold uS
  by_cases h1 : j = 20
  · rw [if_pos h1, h1]
  · rw [if_neg h1]
    by_cases h2 : j = 9
    · rw [if_pos h2, h2]
    · rw [if_neg h2]
      by_cases h3 : j = 7
      · rw [if_pos h3, h3]
      · rw [if_neg h3]
theorem cell_in {F x y : Nat} (hx : x < 10) (hy : y < 6) : fX10_isCell F (nI x) (nI y) = some 1 ∧ fX11_isCell F (nI x) (nI y) = some 1 := by
  unfold fX10_isCell fX11_isCell
  rw [show (10 : Int32) = nI 10 from rfl, show (6 : Int32) = nI 6 from rfl, show (9 : Int64) = (nI 9).toInt64 from rfl, show (5 : Int64) = (nI 5).toInt64 from rfl, bel_in hx (by omega), bel_in hy (by omega), in_in (by omega) (by omega), in_in (by omega) (by omega)]
  exact ⟨rfl, rfl⟩
theorem cell_out {F : Nat} {x y : Int32} (h : (x < 0 ∨ nI 10 ≤ x) ∨ (y < 0 ∨ nI 6 ≤ y)) : fX10_isCell F x y = some 0 ∧ fX11_isCell F x y = some 0 := by
  unfold fX10_isCell fX11_isCell
  rw [show (10 : Int32) = nI 10 from rfl, show (6 : Int32) = nI 6 from rfl, show (9 : Int64) = (nI 9).toInt64 from rfl, show (5 : Int64) = (nI 5).toInt64 from rfl]
  rcases rng x 10 (by omega) with ⟨a, ha, rfl⟩ | hx
  · have hy := h.resolve_left (fun q => q.elim (nI_pos (by omega)) (nI_ge ha (by omega)))
    rw [bel_in ha (by omega), in_in (by omega) (by omega), bd_some, bd_some, bel_out hy, in_out (by omega) hy]
    exact ⟨rfl, rfl⟩
  · rw [bel_out hx, in_out (by omega) hx]
    exact ⟨rfl, rfl⟩
theorem RB3_push {bl : List B3} {n : Int32} {f : Nat → Int32} {q : B3} (h : RB3 bl n f) : RB3 (bl ++ [q]) (n + 1) (upd (upd (upd f (3 * bl.length) (nI q.1)) (3 * bl.length + 1) (nI q.2.1)) (3 * bl.length + 2) (nI q.2.2)) := by
  refine ⟨by rw [h.1, nI_1, List.length_append]; rfl, fun i x hx => ?_⟩
  by_cases hi : i < bl.length
  · rw [List.getElem?_append_left hi] at hx
    obtain ⟨a, b, c⟩ := h.2 i x hx
    unfold upd
    refine ⟨?_, ?_, ?_⟩
    · rw [if_neg (by omega), if_neg (by omega), if_neg (by omega)]; exact a
    · rw [if_neg (by omega), if_neg (by omega), if_neg (by omega)]; exact b
    · rw [if_neg (by omega), if_neg (by omega), if_neg (by omega)]; exact c
  · rw [List.getElem?_append_right (by omega)] at hx
    have h0 : i - bl.length < 1 := (List.getElem?_eq_some_iff.mp hx).1
    have e : i = bl.length := by omega
    subst e
    rw [Nat.sub_self] at hx
    cases hx
    unfold upd
    refine ⟨?_, ?_, ?_⟩
    · rw [if_neg (by omega), if_neg (by omega), if_pos rfl]
    · rw [if_neg (by omega), if_pos rfl]
    · rw [if_pos rfl]
theorem st_put : St_put Inv := by
  intro S x1 x2 x3 hI
  have hI0 := hI
  obtain ⟨hT, ⟨bl, hv, hb, hm, ⟨al, hs, hun, hac, ham⟩⟩, hG, hS, hK0, hK1⟩ := hI
  have h8 := hv.1
  unfold fX10_put fX11_put
  rcases rng x1 6 (by omega) with ⟨k, hk, rfl⟩ | hx
  rotate_left
  · rw [show (6 : Int32) = nI 6 from rfl, bel_out hx, show (5 : Int64) = (nI 5).toInt64 from rfl, in_out (by omega) hx]
    exact ⟨_, _, rfl, rfl, rfl, by rw [uS3]; exact hI0⟩
  rw [show (6 : Int32) = nI 6 from rfl, bel_in hk (by omega), show (5 : Int64) = (nI 5).toInt64 from rfl, in_in (by omega) (by omega), bd_some, bd_some, if1, if1]
  by_cases hc : (x2 < 0 ∨ nI 10 ≤ x2) ∨ (x3 < 0 ∨ nI 6 ≤ x3)
  · rw [(cell_out hc).1, (cell_out hc).2]
    exact ⟨_, _, rfl, rfl, rfl, by rw [uS3]; exact hI0⟩
  obtain ⟨x, hx, rfl⟩ := (rng x2 10 (by omega)).resolve_right (fun h => hc (Or.inl h))
  obtain ⟨y, hy, rfl⟩ := (rng x3 6 (by omega)).resolve_right (fun h => hc (Or.inr h))
  rw [(cell_in hx hy).1, (cell_in hx hy).2, bd_some, bd_some, if1, if1, sta hb hv hx hy, ist hm hv hx hy, bd_some, bd_some]
  by_cases ht : tkB bl x y = true
  · rw [if_pos ht, if1, if1]
    exact ⟨_, _, rfl, rfl, rfl, by rw [uS3]; exact hI0⟩
  rw [if_neg ht, if0, if0, hb.1, hm.1]
  by_cases hf : bl.length = 8
  · rw [hf, if_neg (show ¬ nI 8 < (8 : Int32) by decide), if_pos (show nI 8 = (8 : Int32) from rfl)]
    exact ⟨_, _, rfl, rfl, rfl, by rw [uS3]; exact hI0⟩
  have hlt : bl.length < 8 := by omega
  rw [show (8 : Int32) = nI 8 from rfl, if_pos (nI_lt hlt (by omega)), if_neg (fun e => hf ((nI_eq (by omega) (by omega)).mp e))]
  obtain ⟨σb', i1, i2⟩ := ins (b := bl.length) (q := (k, x, y)) hb hlt (Nat.le_refl _)
  rw [List.insertIdx_length_self] at i2
  obtain ⟨σa', r1, r2⟩ := rem_act (so := 0) (j := bl.length) (q := (k, x, y)) hac i2 (by simp; omega) (by simp)
  obtain ⟨σ', kk, nn, row, k1, k2, k3⟩ := ram_push ham hm h8
  rw [i1, bd_some, show (0 : Int32) = nI 0 from rfl, r1, k1, bd_some, bd_some]
  subst k2
  simp only [st_I1, st_I2, st_W1, st_A1, nm_go, Nat.reduceEqDiff, reduceIte, hm.1]
  rw [m30, show (1 : Int32) = nI 1 from rfl, show (2 : Int32) = nI 2 from rfl, nI_add, nI_add, nI_add, show (nI 0) = (0 : Int32) from rfl, if_neg (nI_in (show 3 * bl.length < 24 by omega) (by omega)), if_neg (nI_in (show 3 * bl.length + 1 < 24 by omega) (by omega)), if_neg (nI_in (show 3 * bl.length + 2 < 24 by omega) (by omega)), nI_clamp (by omega), nI_clamp (by omega), nI_clamp (by omega)]
  refine ⟨_, _, rfl, rfl, ?_⟩
  refine ⟨?_, hT, ⟨bl ++ [(k, x, y)], ⟨by simp; omega, fun q hq => ?_⟩, i2, ?_, ⟨((0, bl.length, (k, x, y)) :: al).take 16, (bl :: hs).take 16, und_take 16 _ _ _ ⟨⟨⟨hk, hx, hy⟩, Or.inl ⟨rfl, by simp⟩⟩, ?_, hv, hun⟩, r2, k3⟩⟩, hG, hS, hK0, hK1⟩
  · show nI bl.length = nI (bl.length + 1) - nI 1
    rw [show nI 1 = (1 : Int32) from rfl, nI_pred]
  · rcases List.mem_append.mp hq with h | h
    · exact hv.2 q h
    · rw [List.mem_singleton.mp h]
      exact ⟨hk, hx, hy⟩
  · have := RB3_push (q := (k, x, y)) hm
    rw [hm.1, nI_1] at this
    exact this
  · show (bl ++ [(k, x, y)]).eraseIdx bl.length = bl
    rw [List.eraseIdx_append_of_length_le (Nat.le_refl _), Nat.sub_self]
    simp
