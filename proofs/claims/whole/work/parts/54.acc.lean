/-! the class reads: a byte at a time -/
def RC (d : DD) (σb σd : ST) : Prop := RB d.1 σb ∧ RG d.2.1 d.2.2.1 d.2.2.2 σd
def RE (σe : ST) (L : Nat) (told : List Nat) : Prop := σe.1 4 = 1 ∧ σe.1 3 = nI L ∧ σe.1 2 = nI told.length ∧ ∀ i v, told[i]? = some v → σe.2.1 1 i = nI v
theorem drp {α : Type} {l : List α} {i : Nat} {q : α} (hq : l[i]? = some q) : l.drop i = q :: l.drop (i + 1) := by
  obtain ⟨h, e⟩ := List.getElem?_eq_some_iff.mp hq
  rw [List.drop_eq_getElem_cons h, e]
theorem colN_le (x : Nat) : ∀ bl : List B3, colN x bl ≤ bl.length
  | [] => Nat.le_refl 0
  | q :: l => by
    have := colN_le x l
    show (if q.2.1 = x then 1 else 0) + colN x l ≤ l.length + 1
    by_cases c : q.2.1 = x
    · rw [if_pos c]
      omega
    · rw [if_neg c]
      omega
theorem ic_loop {F x : Nat} {bl : List B3} {σ : ST} (h : RB bl σ) (hv : vB bl) (hx : x < 10) : ∀ (r n i a : Nat), i + r = bl.length → r < n → gX1_inColumn_4 F σ (nI x) n (nI a) (nI i) = some (nI (a + colN x (bl.drop i)), nI bl.length) := by
  have h8 := hv.1
  intro r
  induction r with
  | zero =>
    intro n i a hi hn
    obtain ⟨m, rfl⟩ : ∃ m, n = m + 1 := ⟨n - 1, by omega⟩
    show gbX1_inColumn_4 F σ (nI x) _ (nI a) (nI i) = _
    unfold gbX1_inColumn_4
    rw [h.1, if_pos (nI_le (by omega) (by omega)), List.drop_eq_nil_of_le (by omega), show i = bl.length by omega]
    rfl
  | succ r ih =>
    intro n i a hi hn
    obtain ⟨m, rfl⟩ : ∃ m, n = m + 1 := ⟨n - 1, by omega⟩
    obtain ⟨q, hq, hqm⟩ := at_get (show i < bl.length by omega)
    obtain ⟨b0, b1, b2⟩ := h.2 i q hq
    obtain ⟨o0, o1, o2⟩ := hv.2 q hqm
    have e : gX1_inColumn_4 F σ (nI x) (m + 1) (nI a) (nI i) = gbX1_inColumn_4 F σ (nI x) (gX1_inColumn_4 F σ (nI x) m) (nI a) (nI i) := rfl
    rw [e, drp hq]
    unfold gbX1_inColumn_4
    rw [h.1, if_neg (nI_ge (by omega) (by omega)), if_neg (nI_in (show i < 8 by omega) (by omega)), nI_clamp (by omega), b1, nI_1, nI_1, Int32.add_zero]
    show _ = some (nI (a + ((if q.2.1 = x then 1 else 0) + colN x (bl.drop (i + 1)))), _)
    by_cases c1 : q.2.1 = x
    · rw [if_pos (by rw [c1]), ih m (i + 1) (a + 1) (by omega) (by omega), if_pos c1, Nat.add_assoc]
    · rw [if_neg (fun e => c1 ((nI_eq (by omega) (by omega)).mp e)), ih m (i + 1) a (by omega) (by omega), if_neg c1, Nat.zero_add]
theorem icC {x : Nat} {bl : List B3} {σ : ST} (h : RB bl σ) (hv : vB bl) (hx : x < 10) : fX1_inColumn FU σ (nI x) = some (nI (colN x bl)) := by
  have g := ic_loop (F := FU) h hv hx bl.length FU 0 0 (by omega) (by have := hv.1; unfold FU; omega)
  rw [show nI 0 = (0 : Int32) from rfl, Nat.zero_add, List.drop_zero] at g
  unfold fX1_inColumn
  rw [g]
  rfl
def kI1 (o : Option Nat) : Int32 := match o with
  | none => -1
  | some k => nI k
theorem vlC : ∀ c : Fin 256, fX5_valueOf FU (nI c.1) = some (kI (vlu c.1)) := by decide +kernel
theorem ixC : ∀ c : Fin 256, fJ0_indexOf_0f7a4 FU (((nI c.1).toUInt32 % 65536).toInt32) = some (kI1 (knd c.1)) := by decide +kernel
theorem vf_lt {L i c v : Nat} (h : vfL L i c = some v) : v < 16 := by
  unfold vfL at h
  by_cases h1 : L = 66 ∧ i = 0
  · rw [if_pos h1] at h
    have := knd_lt h
    omega
  · rw [if_neg h1] at h
    exact vlu_lt h
theorem bbI : ∀ b : Bool, (if ¬ ((if b then (1 : Int32) else 0) = 0 ∨ (if b then (1 : Int32) else 0) = 1) then (none : Option Int32) else some (if b then (1 : Int32) else 0)) = some (if b then 1 else 0) := by decide
theorem bb0 : (if ¬ ((0 : Int32) = 0 ∨ (0 : Int32) = 1) then (none : Option Int32) else some 0) = some 0 := by decide
theorem belN {F v N : Nat} (hv : v < 2 ^ 31) (hN : N < 2 ^ 31) : fX10_isBelow F (nI v) (nI N) = some (if decide (v < N) then 1 else 0) := by
  by_cases c : v < N
  · rw [bel_in c hN, decide_eq_true c]
    rfl
  · rw [bel_out (Or.inr (nI_le (by omega) hv)), decide_eq_false c]
    rfl
/-- a sign without a value -/
theorem alb_n {σe σb σd : ST} {r : Int32} (h : r < 0) : fX5_allowsForBody FU σe σb σd r = some 0 := by
  have b6 : fX10_isBelow FU r 6 = some 0 := bel_out (N := 6) (Or.inl h)
  have b10 : fX10_isBelow FU r 10 = some 0 := bel_out (N := 10) (Or.inl h)
  unfold fX5_allowsForBody
  rw [b6, b10, bd_some, bd_some, bd_some, bb0, if0, if0]
  by_cases c : σe.1 2 = 0
  · rw [if_pos c]
  · rw [if_neg c]
    by_cases c2 : σe.1 2 = 1
    · rw [if_pos c2]
    · rw [if_neg c2]
theorem alc_n {σe σb σd : ST} {r : Int32} (h : r < 0) : fX5_allowsForCliff FU σe σb σd r = some 0 := by
  have b6 : fX10_isBelow FU r 6 = some 0 := bel_out (N := 6) (Or.inl h)
  have b16 := (min_out (F := FU) (x := r) (Or.inl h)).1
  unfold fX5_allowsForCliff
  rw [b6, b16, bd_some, bd_some, bb0, if0]
  by_cases c : σe.1 2 = 0
  · rw [if_pos c]
  · rw [if_neg c]
theorem alr_n {σe : ST} {r x2 : Int32} {N : Nat} (hx : x2 = nI N) (h : r < 0) : fX5_allowsInRange FU σe r x2 = some 0 := by
  have b6 : fX10_isBelow FU r x2 = some 0 := by
    rw [hx]
    exact bel_out (Or.inl h)
  have b10 : fX10_isBelow FU r 10 = some 0 := bel_out (N := 10) (Or.inl h)
  unfold fX5_allowsInRange
  rw [b6, b10]
  simp only [bd_some, if_true, ite_self]
theorem al_n {σe σb σd : ST} {r : Int32} (h : r < 0) : fX5_allows FU σe σb σd r = some 0 := by
  have r6 : fX5_allowsInRange FU σe r 6 = some 0 := alr_n (N := 6) rfl h
  have r16 : fX5_allowsInRange FU σe r 16 = some 0 := alr_n (N := 16) rfl h
  unfold fX5_allows
  rw [alb_n h, alc_n h, r6, r16, bd_some, bb0, ite_self, ite_self, ite_self]
/-- a sign with a value -/
theorem alb_s {d : DD} {σe σb σd : ST} {told : List Nat} {v : Nat} (hv : vD d) (hb : RB d.1 σb) (hE : RE σe 66 told) (hl : told.length < 3) (hk : ∀ i u, told[i]? = some u → bodB d.1 (told.take i) u = true) (h16 : v < 16) : fX5_allowsForBody FU σe σb σd (nI v) = some (if bodB d.1 told v then 1 else 0) := by
  unfold fX5_allowsForBody
  have b6 : fX10_isBelow FU (nI v) 6 = _ := belN (N := 6) (show v < 2 ^ 31 by omega) (by omega)
  have b10 : fX10_isBelow FU (nI v) 10 = _ := belN (N := 10) (show v < 2 ^ 31 by omega) (by omega)
  rw [hE.2.2.1, b6, b10, bd_some, bd_some, bd_some]
  match told, hl, hk, hE with
  | [], _, _, _ =>
    rw [if_pos (show nI ([] : List Nat).length = 0 from rfl), bbI]
    rfl
  | [k], _, _, _ =>
    rw [if_neg (show ¬ nI [k].length = 0 from show ¬ nI 1 = 0 by decide), if_pos (show nI [k].length = 1 from rfl)]
    show _ = some (if (decide (v < 10) && decide (colN v d.1 < 6)) then 1 else 0)
    by_cases c : v < 10
    · have hle := colN_le v d.1
      have h8 := hv.1.1
      rw [decide_eq_true c, if_pos rfl, if1, icC hb hv.1 c, bd_some, Bool.true_and]
      by_cases c2 : colN v d.1 < 6
      · rw [if_neg (show ¬ (6 : Int32) ≤ nI (colN v d.1) from nI_ge (b := 6) c2 (by omega)), decide_eq_true c2]
        rfl
      · rw [if_pos (show (6 : Int32) ≤ nI (colN v d.1) from nI_le (a := 6) (by omega) (by omega)), decide_eq_false c2]
        rfl
    · rw [decide_eq_false c]
      rfl
  | [k, x], _, hk, hE =>
    have hx : (decide (x < 10) && decide (colN x d.1 < 6)) = true := hk 1 x rfl
    rw [Bool.and_eq_true, decide_eq_true_iff] at hx
    have h1 : σe.2.1 1 (1 : Int32).toNatClampNeg = nI x := hE.2.2.2 1 x rfl
    rw [if_neg (show ¬ nI [k, x].length = 0 from show ¬ nI 2 = 0 by decide), if_neg (show ¬ nI [k, x].length = 1 from show ¬ nI 2 = 1 by decide)]
    show _ = some (if (decide (v < 6) && !tkB d.1 x v) then 1 else 0)
    by_cases c : v < 6
    · rw [decide_eq_true c, if_pos rfl, if1, h1, sta hb hv.1 hx.1 c, bd_some, Bool.true_and]
      cases tkB d.1 x v <;> rfl
    · rw [decide_eq_false c]
      rfl
theorem alc_s {d : DD} {σe σb σd : ST} {told : List Nat} {v : Nat} (hg : RG d.2.1 d.2.2.1 d.2.2.2 σd) (hE : RE σe 76 told) (hl : told.length < 2) (h16 : v < 16) : fX5_allowsForCliff FU σe σb σd (nI v) = some (if cliB d.2.2.2 told v then 1 else 0) := by
  unfold fX5_allowsForCliff
  have b6 : fX10_isBelow FU (nI v) 6 = _ := belN (N := 6) (show v < 2 ^ 31 by omega) (by omega)
  rw [hE.2.2.1, b6, (min_in h16).1, bd_some, bd_some]
  match told, hl with
  | [], _ =>
    rw [if_pos (show nI ([] : List Nat).length = 0 from rfl)]
    show _ = some (if (decide (v < 6) && (d.2.2.2 v).isNone) then 1 else 0)
    by_cases c : v < 6
    · rw [decide_eq_true c, if_pos rfl, if1, hcl hg.2.2.1 c, bd_some, Bool.true_and]
      cases d.2.2.2 v <;> rfl
    · rw [decide_eq_false c]
      rfl
  | [k], _ =>
    rw [if_neg (show ¬ nI [k].length = 0 from show ¬ nI 1 = 0 by decide)]
    show _ = some (if decide (v < 16) then 1 else 0)
    rw [decide_eq_true h16]
    rfl
theorem alr_s {σe : ST} {told : List Nat} {v lim L : Nat} {x2 : Int32} (hE : RE σe L told) (hl : told.length < 4) (hk : ∀ i u, told[i]? = some u → rngB lim (told.take i) u = true) (h16 : v < 16) (hx : x2 = nI lim) (hlim : lim ≤ 16) : fX5_allowsInRange FU σe (nI v) x2 = some (if rngB lim told v then 1 else 0) := by
  unfold fX5_allowsInRange
  have b6 : fX10_isBelow FU (nI v) x2 = some (if decide (v < lim) then 1 else 0) := by
    rw [hx]
    exact belN (N := lim) (show v < 2 ^ 31 by omega) (by omega)
  have b10 : fX10_isBelow FU (nI v) 10 = _ := belN (N := 10) (show v < 2 ^ 31 by omega) (by omega)
  have ef : ∀ b : Bool, (if (if b then (1 : Int32) else 0) = 0 then some (0 : Int32) else some 1) = some (if b then 1 else 0) := by decide
  rw [hE.2.2.1, b6, b10]
  simp only [bd_some, ef]
  match told, hl, hk, hE with
  | [], _, _, _ =>
    rw [if_neg (show ¬ nI ([] : List Nat).length = 1 from show ¬ nI 0 = 1 by decide), if_neg (show ¬ nI ([] : List Nat).length = 3 from show ¬ nI 0 = 3 by decide), if_neg (nI_pos (show v < 2 ^ 31 by omega)), if_neg (show ¬ (2 : Int32) ≤ nI ([] : List Nat).length from show ¬ (2 : Int32) ≤ nI 0 by decide)]
    rfl
  | [a], _, hk, hE =>
    have ha : decide (a < 10) = true := hk 0 a rfl
    rw [decide_eq_true_iff] at ha
    have h0 : σe.2.1 1 (0 : Int32).toNatClampNeg = nI a := hE.2.2.2 0 a rfl
    rw [if_pos (show nI [a].length = 1 from rfl), h0, if_neg (show ¬ (2 : Int32) ≤ nI [a].length from show ¬ (2 : Int32) ≤ nI 1 by decide)]
    show _ = some (if (decide (a ≤ v) && decide (v < 10)) then 1 else 0)
    by_cases c : a ≤ v
    · rw [if_neg (fun h => by have := (fa_of_lt h).2.1; exact this (nI_le c (by omega))), decide_eq_true c, Bool.true_and]
    · rw [if_pos (fa_of_nle (nI_ge (show v < a by omega) (by omega))), decide_eq_false c]
      rfl
  | [a, b], _, _, _ =>
    rw [if_neg (show ¬ nI [a, b].length = 1 from show ¬ nI 2 = 1 by decide), if_neg (show ¬ nI [a, b].length = 3 from show ¬ nI 2 = 3 by decide), if_neg (nI_pos (show v < 2 ^ 31 by omega)), if_pos (show (2 : Int32) ≤ nI [a, b].length from show (2 : Int32) ≤ nI 2 by decide)]
    rfl
  | [a, b, c], _, hk, hE =>
    have hc : decide (c < lim) = true := hk 2 c rfl
    rw [decide_eq_true_iff] at hc
    have h0 : σe.2.1 1 (2 : Int32).toNatClampNeg = nI c := hE.2.2.2 2 c rfl
    rw [if_neg (show ¬ nI [a, b, c].length = 1 from show ¬ nI 3 = 1 by decide), if_pos (show nI [a, b, c].length = 3 from rfl), h0, if_pos (show (2 : Int32) ≤ nI [a, b, c].length from show (2 : Int32) ≤ nI 3 by decide)]
    show _ = some (if (decide (c ≤ v) && decide (v < lim)) then 1 else 0)
    by_cases e : c ≤ v
    · rw [if_neg (fun h => by have := (fa_of_lt h).2.1; exact this (nI_le e (by omega))), decide_eq_true e, Bool.true_and]
    · rw [if_pos (fa_of_nle (nI_ge (show v < c by omega) (by omega))), decide_eq_false e]
      rfl
theorem al_s {d : DD} {L : Nat} {σe σb σd : ST} {told : List Nat} {v : Nat} (hv : vD d) (hc : RC d σb σd) (ho : opB d L = true) (hE : RE σe L told) (hl : told.length < kL L) (hk : ∀ i u, told[i]? = some u → okL d L (told.take i) u = true) (h16 : v < 16) : fX5_allows FU σe σb σd (nI v) = some (if okL d L told v then 1 else 0) := by
  unfold fX5_allows
  rw [hE.2.1]
  rcases op_c ho with ⟨rfl, _⟩ | ⟨rfl, _⟩ | ⟨rfl, _⟩ | ⟨rfl, _⟩
  · rw [if_pos (show nI 66 = 66 from rfl), alb_s hv hc.1 hE hl hk h16, bd_some, bbI]
    rfl
  · rw [if_neg (by decide), if_pos (show nI 72 = 72 from rfl), show fX5_allowsInRange FU σe (nI v) 6 = _ from alr_s (lim := 6) hE hl hk h16 rfl (by omega), bd_some, bbI]
    rfl
  · rw [if_neg (by decide), if_neg (by decide), if_pos (show nI 76 = 76 from rfl), alc_s hc.2 hE hl h16, bd_some, bbI]
    rfl
  · rw [if_neg (by decide), if_neg (by decide), if_neg (by decide), show fX5_allowsInRange FU σe (nI v) 16 = _ from alr_s (lim := 16) hE hl hk h16 rfl (by omega), bd_some, bbI]
    rfl
