/-! bodies put, moved, taken, taken back -/
abbrev T3 : Type := Int32 × Int32 × Int32
def tri (q : B3) : T3 := (nI q.1, nI q.2.1, nI q.2.2)
def rd (σ : ST) (i : Nat) : T3 := (σ.2.1 0 i, σ.2.1 1 i, σ.2.1 2 i)
def wr (σ : ST) (b : Nat) (t : T3) : ST := sA (sA (sA σ 0 b t.1) 1 b t.2.1) 2 b t.2.2
theorem rd_wr (σ : ST) (b : Nat) (t : T3) (i : Nat) : rd (wr σ b t) i = if i = b then t else rd σ i := by
  have e : rd (wr σ b t) i = (upd (σ.2.1 0) b t.1 i, upd (σ.2.1 1) b t.2.1 i, upd (σ.2.1 2) b t.2.2 i) := rfl
  rw [e]
  unfold upd
  by_cases h : i = b
  · rw [if_pos h, if_pos h, if_pos h, if_pos h]
  · rw [if_neg h, if_neg h, if_neg h, if_neg h]
    rfl
theorem RB_iff {bl : List B3} {σ : ST} : RB bl σ ↔ σ.1 3 = nI bl.length ∧ ∀ (i : Nat) (q : B3), bl[i]? = some q → rd σ i = tri q := by
  unfold RB rd tri
  constructor
  · rintro ⟨h1, h2⟩
    refine ⟨h1, fun i q hq => ?_⟩
    obtain ⟨a, b, c⟩ := h2 i q hq
    rw [a, b, c]
  · rintro ⟨h1, h2⟩
    refine ⟨h1, fun i q hq => ?_⟩
    have := h2 i q hq
    exact ⟨congrArg (fun t => t.1) this, congrArg (fun t => t.2.1) this, congrArg (fun t => t.2.2) this⟩
theorem renum {F a b : Nat} {σ : ST} (ha : a < 8) (hb : b < 8) : fX1_renumber F σ (nI a) (nI b) = some (wr σ b (rd σ a)) := by
  unfold fX1_renumber
  rw [if_neg (nI_in ha (by omega)), if_neg (nI_in hb (by omega)), nI_clamp (by omega), nI_clamp (by omega)]
  rfl
theorem ins_loop {F b : Nat} {v2 v3 v4 : Int32} : ∀ (i n : Nat) (σ : ST), b ≤ i → i < 8 → i < n → ∃ σ', gX1_insert_29 F (nI b) v2 v3 v4 n (nI i) σ = some (nI b, σ') ∧ σ'.1 = σ.1 ∧ ∀ j, rd σ' j = if b < j ∧ j ≤ i then rd σ (j - 1) else rd σ j := by
  intro i
  induction i with
  | zero =>
    intro n σ hb h8 hn
    obtain ⟨m, rfl⟩ : ∃ m, n = m + 1 := ⟨n - 1, by omega⟩
    have e : b = 0 := by omega
    subst e
    refine ⟨σ, ?_, rfl, fun j => by rw [if_neg (by omega)]⟩
    show gbX1_insert_29 F (nI 0) v2 v3 v4 _ (nI 0) σ = _
    unfold gbX1_insert_29
    rw [if_pos (nI_le (Nat.le_refl 0) (by omega))]
  | succ i ih =>
    intro n σ hb h8 hn
    obtain ⟨m, rfl⟩ : ∃ m, n = m + 1 := ⟨n - 1, by omega⟩
    by_cases e : b = i + 1
    · subst e
      refine ⟨σ, ?_, rfl, fun j => by rw [if_neg (by omega)]⟩
      show gbX1_insert_29 F (nI (i + 1)) v2 v3 v4 _ (nI (i + 1)) σ = _
      unfold gbX1_insert_29
      rw [if_pos (nI_le (Nat.le_refl _) (by omega))]
    · obtain ⟨σ', h1, h2, h3⟩ := ih m (wr σ (i + 1) (rd σ i)) (by omega) (by omega) (by omega)
      refine ⟨σ', ?_, h2, fun j => ?_⟩
      · show gbX1_insert_29 F (nI b) v2 v3 v4 (gX1_insert_29 F (nI b) v2 v3 v4 m) (nI (i + 1)) σ = _
        unfold gbX1_insert_29
        rw [if_neg (nI_ge (by omega) (by omega)), nI_pred, renum (by omega) (by omega), bd_some, pk_m1]
        exact h1
      · rw [h3, rd_wr, rd_wr]
        by_cases h4 : b < j ∧ j ≤ i
        · rw [if_pos h4, if_neg (by omega), if_pos (by omega)]
        · rw [if_neg h4]
          by_cases h5 : j = i + 1
          · rw [if_pos h5, if_pos (by omega), h5, Nat.add_sub_cancel]
          · rw [if_neg h5, if_neg (by omega)]
theorem ins {b : Nat} {bl : List B3} {σ : ST} {q : B3} (h : RB bl σ) (hn : bl.length < 8) (hb : b ≤ bl.length) : ∃ σ', fX1_insert FU σ (nI b) (nI q.1) (nI q.2.1) (nI q.2.2) = some σ' ∧ RB (bl.insertIdx b q) σ' := by
  rw [RB_iff] at h
  obtain ⟨σ', h1, h2, h3⟩ := ins_loop (F := FU) (b := b) (v2 := nI q.1) (v3 := nI q.2.1) (v4 := nI q.2.2) bl.length FU σ hb hn (by unfold FU; omega)
  refine ⟨sI (wr σ' b (tri q)) 3 ((wr σ' b (tri q)).1 3 + 1), ?_, RB_iff.mpr ⟨?_, fun i x hx => ?_⟩⟩
  · unfold fX1_insert
    rw [h.1, show (8 : Int32) = nI 8 from rfl, if_neg (nI_ge hn (by omega)), nI_1, bel_in (by omega) (by omega), bd_some, if1, h1, bd_some, if_neg (nI_in (show b < 8 by omega) (by omega)), nI_clamp (by omega)]
    rfl
  · show σ'.1 3 + 1 = _
    rw [h2, h.1, nI_1, List.length_insertIdx, if_pos hb]
  · have e : rd (sI (wr σ' b (tri q)) 3 ((wr σ' b (tri q)).1 3 + 1)) i = rd (wr σ' b (tri q)) i := rfl
    rw [e, rd_wr, h3]
    rw [List.getElem?_insertIdx] at hx
    by_cases h4 : i < b
    · rw [if_pos h4] at hx
      rw [if_neg (by omega), if_neg (by omega)]
      exact h.2 i x hx
    · rw [if_neg h4] at hx
      by_cases h5 : i = b
      · rw [if_pos h5, if_pos (by omega)] at hx
        cases hx
        rw [if_pos h5]
      · rw [if_neg h5] at hx
        have hl := (List.getElem?_eq_some_iff.mp hx).1
        rw [if_neg h5, if_pos (by omega)]
        exact h.2 (i - 1) x hx
theorem rem_loop {F : Nat} {v1 : Int32} {N : Nat} (h8 : N < 8) : ∀ (r n i : Nat) (σ : ST), σ.1 3 = nI (N + 1) → i + r = N → r < n → ∃ σ', gX1_remove_11 F v1 n (nI i) σ = some (nI N, σ') ∧ σ'.1 = σ.1 ∧ ∀ j, rd σ' j = if i ≤ j ∧ j < N then rd σ (j + 1) else rd σ j := by
  intro r
  induction r with
  | zero =>
    intro n i σ hs hi hn
    obtain ⟨m, rfl⟩ : ∃ m, n = m + 1 := ⟨n - 1, by omega⟩
    have e : i = N := by omega
    subst e
    refine ⟨σ, ?_, rfl, fun j => by rw [if_neg (by omega)]⟩
    show gbX1_remove_11 F v1 _ (nI i) σ = _
    unfold gbX1_remove_11
    rw [hs, nI_pred, if_pos (nI_le (Nat.le_refl _) (by omega))]
  | succ r ih =>
    intro n i σ hs hi hn
    obtain ⟨m, rfl⟩ : ∃ m, n = m + 1 := ⟨n - 1, by omega⟩
    obtain ⟨σ', h1, h2, h3⟩ := ih m (i + 1) (wr σ i (rd σ (i + 1))) hs (by omega) (by omega)
    refine ⟨σ', ?_, h2, fun j => ?_⟩
    · show gbX1_remove_11 F v1 (gX1_remove_11 F v1 m) (nI i) σ = _
      unfold gbX1_remove_11
      rw [hs, nI_pred, if_neg (nI_ge (by omega) (by omega)), nI_1, renum (by omega) (by omega), bd_some]
      exact h1
    · rw [h3, rd_wr, rd_wr]
      by_cases h4 : i + 1 ≤ j ∧ j < N
      · rw [if_pos h4, if_neg (by omega), if_pos (by omega)]
      · rw [if_neg h4]
        by_cases h5 : j = i
        · rw [if_pos h5, if_pos (by omega), h5]
        · rw [if_neg h5, if_neg (by omega)]
theorem rem {b : Nat} {bl : List B3} {σ : ST} (h : RB bl σ) (hn : bl.length ≤ 8) (hb : b < bl.length) : ∃ σ', fX1_remove FU σ (nI b) = some σ' ∧ RB (bl.eraseIdx b) σ' := by
  have h0 := h
  rw [RB_iff] at h
  obtain ⟨σ', h1, h2, h3⟩ := rem_loop (F := FU) (v1 := nI b) (N := bl.length - 1) (by omega) (bl.length - 1 - b) FU b σ (by rw [h.1]; congr 1; omega) (by omega) (by unfold FU; omega)
  refine ⟨sI σ' 3 (σ'.1 3 - 1), ?_, RB_iff.mpr ⟨?_, fun i x hx => ?_⟩⟩
  · unfold fX1_remove
    rw [has_in h0 hn hb, bd_some, if1, h1]
    rfl
  · show σ'.1 3 - 1 = _
    rw [h2, h.1, show bl.length = (bl.length - 1) + 1 by omega, nI_pred, List.length_eraseIdx, if_pos (by omega)]
  · have e : rd (sI σ' 3 (σ'.1 3 - 1)) i = rd σ' i := rfl
    rw [e, h3]
    rw [List.getElem?_eraseIdx] at hx
    by_cases h4 : i < b
    · rw [if_pos h4] at hx
      rw [if_neg (by omega)]
      exact h.2 i x hx
    · rw [if_neg h4] at hx
      have hl := (List.getElem?_eq_some_iff.mp hx).1
      rw [if_pos (by omega)]
      exact h.2 (i + 1) x hx
theorem cpB_loop {F : Nat} {σo : ST} {N : Nat} (h8 : N ≤ 8) : ∀ (r n i : Nat) (σ : ST), σ.1 3 = nI N → i + r = N → r < n → ∃ σ', gX1_copyFrom_10 F σo n (nI i) σ = some (nI N, σ') ∧ σ'.1 = σ.1 ∧ ∀ j, rd σ' j = if i ≤ j ∧ j < N then rd σo j else rd σ j := by
  intro r
  induction r with
  | zero =>
    intro n i σ hs hi hn
    obtain ⟨m, rfl⟩ : ∃ m, n = m + 1 := ⟨n - 1, by omega⟩
    have e : i = N := by omega
    subst e
    refine ⟨σ, ?_, rfl, fun j => by rw [if_neg (by omega)]⟩
    show gbX1_copyFrom_10 F σo _ (nI i) σ = _
    unfold gbX1_copyFrom_10
    rw [hs, if_pos (nI_le (Nat.le_refl _) (by omega))]
  | succ r ih =>
    intro n i σ hs hi hn
    obtain ⟨m, rfl⟩ : ∃ m, n = m + 1 := ⟨n - 1, by omega⟩
    obtain ⟨σ', h1, h2, h3⟩ := ih m (i + 1) (wr σ i (rd σo i)) hs (by omega) (by omega)
    refine ⟨σ', ?_, h2, fun j => ?_⟩
    · show gbX1_copyFrom_10 F σo (gX1_copyFrom_10 F σo m) (nI i) σ = _
      unfold gbX1_copyFrom_10
      rw [hs, if_neg (nI_ge (by omega) (by omega)), if_neg (nI_in (show i < 8 by omega) (by omega)), nI_clamp (by omega), nI_1]
      exact h1
    · rw [h3, rd_wr]
      by_cases h4 : i + 1 ≤ j ∧ j < N
      · rw [if_pos h4, if_pos (by omega)]
      · rw [if_neg h4]
        by_cases h5 : j = i
        · rw [if_pos h5, if_pos (by omega), h5]
        · rw [if_neg h5, if_neg (by omega)]
theorem cpB {bl : List B3} {σ σo : ST} (h : RB bl σo) (hn : bl.length ≤ 8) : ∃ σ', fX1_copyFrom FU σ σo = some σ' ∧ RB bl σ' := by
  rw [RB_iff] at h
  obtain ⟨σ', h1, h2, h3⟩ := cpB_loop (F := FU) (σo := σo) (N := bl.length) hn bl.length FU 0 (sI σ 3 (σo.1 3)) h.1 (by omega) (by unfold FU; omega)
  refine ⟨σ', ?_, RB_iff.mpr ⟨by rw [h2]; exact h.1, fun i x hx => ?_⟩⟩
  · unfold fX1_copyFrom
    rw [nm_go, show (0 : Int32) = nI 0 from rfl, h1]
    rfl
  · have hl := (List.getElem?_eq_some_iff.mp hx).1
    rw [h3, if_pos (by omega)]
    exact h.2 i x hx
/-! where one stands -/
def tkB (bl : List B3) (x y : Nat) : Bool := bl.any (fun q => decide (q.2.1 = x) && decide (q.2.2 = y))
theorem any_drop {bl : List B3} {p : B3 → Bool} {i : Nat} {q : B3} (hq : bl[i]? = some q) : (bl.drop i).any p = (p q || (bl.drop (i + 1)).any p) := by
  obtain ⟨h1, h2⟩ := List.getElem?_eq_some_iff.mp hq
  rw [List.drop_eq_getElem_cons h1, List.any_cons, h2]
theorem sta_loop {F x y : Nat} {bl : List B3} {σ : ST} (h : RB bl σ) (hv : vB bl) (hx : x < 10) (hy : y < 6) : ∀ (r n i : Nat), i + r = bl.length → r < n → ∃ z : Nat × Int32, gX1_standsAt_2 F σ (nI x) (nI y) n (nI i) = some z ∧ z.1 = if (bl.drop i).any (fun q => decide (q.2.1 = x) && decide (q.2.2 = y)) then 30 else 38 := by
  have h8 := hv.1
  intro r
  induction r with
  | zero =>
    intro n i hi hn
    obtain ⟨m, rfl⟩ : ∃ m, n = m + 1 := ⟨n - 1, by omega⟩
    refine ⟨(38, nI i), ?_, ?_⟩
    · show gbX1_standsAt_2 F σ (nI x) (nI y) _ (nI i) = _
      unfold gbX1_standsAt_2
      rw [h.1, if_pos (nI_le (by omega) (by omega))]
    · rw [List.drop_eq_nil_of_le (by omega)]
      rfl
  | succ r ih =>
    intro n i hi hn
    obtain ⟨m, rfl⟩ : ∃ m, n = m + 1 := ⟨n - 1, by omega⟩
    obtain ⟨q, hq, hqm⟩ := at_get (show i < bl.length by omega)
    obtain ⟨b0, b1, b2⟩ := h.2 i q hq
    obtain ⟨o0, o1, o2⟩ := hv.2 q hqm
    obtain ⟨z, h1, h2⟩ := ih m (i + 1) (by omega) (by omega)
    have e : gX1_standsAt_2 F σ (nI x) (nI y) (m + 1) (nI i) = if q.2.1 = x then (if q.2.2 = y then some (30, nI i) else some z) else some z := by
      show gbX1_standsAt_2 F σ (nI x) (nI y) (gX1_standsAt_2 F σ (nI x) (nI y) m) (nI i) = _
      unfold gbX1_standsAt_2
      rw [h.1, if_neg (nI_ge (by omega) (by omega)), if_neg (nI_in (show i < 8 by omega) (by omega)), nI_clamp (by omega), b1, b2, nI_1, h1]
      by_cases c1 : q.2.1 = x
      · rw [if_pos (by rw [c1]), if_pos c1]
        by_cases c2 : q.2.2 = y
        · rw [if_pos (by rw [c2]), if_pos c2]
        · rw [if_neg (fun e => c2 ((nI_eq (by omega) (by omega)).mp e)), if_neg c2]
      · rw [if_neg (fun e => c1 ((nI_eq (by omega) (by omega)).mp e)), if_neg c1]
    rw [e, any_drop hq]
    by_cases c1 : q.2.1 = x
    · rw [if_pos c1]
      by_cases c2 : q.2.2 = y
      · rw [if_pos c2]
        exact ⟨_, rfl, by simp [c1, c2]⟩
      · rw [if_neg c2]
        exact ⟨_, rfl, by simp only [h2, decide_eq_false c2, Bool.and_false, Bool.false_or]⟩
    · rw [if_neg c1]
      exact ⟨_, rfl, by simp only [h2, decide_eq_false c1, Bool.false_and, Bool.false_or]⟩
theorem sta {x y : Nat} {bl : List B3} {σ : ST} (h : RB bl σ) (hv : vB bl) (hx : x < 10) (hy : y < 6) : fX1_standsAt FU σ (nI x) (nI y) = some (if tkB bl x y then 1 else 0) := by
  have h8 := hv.1
  obtain ⟨z, h1, h2⟩ := sta_loop (F := FU) h hv hx hy bl.length FU 0 (by omega) (by unfold FU; omega)
  unfold fX1_standsAt tkB
  rw [show (0 : Int32) = nI 0 from rfl, h1, bd_some, h2, List.drop_zero]
  cases bl.any (fun q => decide (q.2.1 = x) && decide (q.2.2 = y)) <;> rfl
theorem ist_loop {F x y : Nat} {bl : List B3} {σ : ST} (h : RB3 bl (σ.1 11) (σ.2.1 7)) (hv : vB bl) (hx : x < 10) (hy : y < 6) : ∀ (r n i : Nat) (b : Bool), i + r = bl.length → r < n → gX11_isTaken_5 F σ (nI x) (nI y) n (if b then 1 else 0) (nI i) = some (if b || (bl.drop i).any (fun q => decide (q.2.1 = x) && decide (q.2.2 = y)) then 1 else 0, nI bl.length) := by
  have h8 := hv.1
  intro r
  induction r with
  | zero =>
    intro n i b hi hn
    obtain ⟨m, rfl⟩ : ∃ m, n = m + 1 := ⟨n - 1, by omega⟩
    show gbX11_isTaken_5 F σ (nI x) (nI y) _ _ (nI i) = _
    unfold gbX11_isTaken_5
    rw [h.1, if_pos (nI_le (by omega) (by omega)), List.drop_eq_nil_of_le (by omega), show i = bl.length by omega]
    simp
  | succ r ih =>
    intro n i b hi hn
    obtain ⟨m, rfl⟩ : ∃ m, n = m + 1 := ⟨n - 1, by omega⟩
    obtain ⟨q, hq, hqm⟩ := at_get (show i < bl.length by omega)
    obtain ⟨b0, b1, b2⟩ := h.2 i q hq
    obtain ⟨o0, o1, o2⟩ := hv.2 q hqm
    have i1 := ih m (i + 1) true (by omega) (by omega)
    have i0 := ih m (i + 1) false (by omega) (by omega)
    simp only [if_true, Bool.true_or, Bool.false_or, Bool.false_eq_true, if_false] at i1 i0
    show gbX11_isTaken_5 F σ (nI x) (nI y) (gX11_isTaken_5 F σ (nI x) (nI y) m) _ (nI i) = _
    unfold gbX11_isTaken_5
    rw [h.1, if_neg (nI_ge (by omega) (by omega)), show (1 : Int32) = nI 1 from rfl, show (2 : Int32) = nI 2 from rfl, m3, m3, nI_add, any_drop hq]
    rw [show (1 : Int32) = nI 1 from rfl] at i1 i0
    cases b with
    | true =>
      rw [if_neg (by decide), i1]
      simp
    | false =>
      rw [if_pos (by rfl), if_neg (nI_in (show 3 * i + 1 < 24 by omega) (by omega)), if_neg (nI_in (show 3 * i + 2 < 24 by omega) (by omega)), nI_clamp (by omega), nI_clamp (by omega), b1, b2, i1, i0]
      by_cases c1 : q.2.1 = x
      · rw [if_pos (by rw [c1])]
        by_cases c2 : q.2.2 = y
        · rw [if_pos (by rw [c2])]
          simp [c1, c2]
        · rw [if_neg (fun e => c2 ((nI_eq (by omega) (by omega)).mp e))]
          simp only [decide_eq_false c2, Bool.and_false, Bool.false_or]
      · rw [if_neg (fun e => c1 ((nI_eq (by omega) (by omega)).mp e))]
        simp only [decide_eq_false c1, Bool.false_and, Bool.false_or]
theorem ist {x y : Nat} {bl : List B3} {σ : ST} (h : RB3 bl (σ.1 11) (σ.2.1 7)) (hv : vB bl) (hx : x < 10) (hy : y < 6) : fX11_isTaken FU σ (nI x) (nI y) = some (if tkB bl x y then 1 else 0) := by
  have h8 := hv.1
  have h1 := ist_loop (F := FU) h hv hx hy bl.length FU 0 false (by omega) (by unfold FU; omega)
  unfold fX11_isTaken tkB
  simp only [Bool.false_eq_true, if_false, Bool.false_or, List.drop_zero] at h1
  rw [show (0 : Int32) = nI 0 from rfl] at h1 ⊢
  rw [h1, bd_some]
  cases bl.any (fun q => decide (q.2.1 = x) && decide (q.2.2 = y)) <;> rfl
