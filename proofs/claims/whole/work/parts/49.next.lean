/-! sure, next -/
def dwB (sl : List (Nat × Nat)) (k y : Nat) : Int64 := if y = k then 0 else vL sl y (tlN sl y)
def dwL (sl : List (Nat × Nat)) (k x r : Nat) : Int64 := oO (· ||| ·) 0 (dwB sl k) x r
theorem dw_loop {F k : Nat} {sl : List (Nat × Nat)} {σ : ST} (hP : PP sl 0 σ) (hk : k < 10) : ∀ (r n x : Nat) (v : Int64), x + r = 10 → r < n → gX3_darkWithout_5 F σ (nI k) n v (nI x) = some (v ||| dwL sl k x r, nI 10) := by
  intro r
  induction r with
  | zero =>
    intro n x v hx hn
    obtain ⟨m, rfl⟩ : ∃ m, n = m + 1 := ⟨n - 1, by omega⟩
    show gbX3_darkWithout_5 F σ (nI k) _ v (nI x) = _
    unfold gbX3_darkWithout_5
    have e : v ||| dwL sl k x 0 = v := (sl64.co _ _).trans (sl64.ze _)
    rw [show x = 10 by omega, if_pos (by decide)]
    rw [show x = 10 by omega] at e
    rw [e]
  | succ r ih =>
    intro n x v hx hn
    obtain ⟨m, rfl⟩ : ∃ m, n = m + 1 := ⟨n - 1, by omega⟩
    show gbX3_darkWithout_5 F σ (nI k) (gX3_darkWithout_5 F σ (nI k) m) v (nI x) = _
    unfold gbX3_darkWithout_5
    have e : dwL sl k x (r + 1) = dwB sl k x ||| dwL sl k (x + 1) r := rfl
    rw [if_neg (show ¬ (10 : Int32) ≤ nI x from nI_ge (a := x) (b := 10) (by omega) (by omega)), taC hP (Nat.zero_le x) (by omega), bd_some, nI_1, e, ← as64]
    unfold dwB
    by_cases c : x = k
    · rw [if_pos (by rw [c]), if_pos c, ih m (x + 1) _ (by omega) (by omega)]
    · rw [if_neg (fun e => c ((nI_eq (by omega) (by omega)).mp e)), if_neg c, ih m (x + 1) _ (by omega) (by omega)]
theorem dwC {k : Nat} {sl : List (Nat × Nat)} {σ : ST} (hP : PP sl 0 σ) (hk : k < 10) : fX3_darkWithout FU σ (nI k) = some (dwL sl k 0 10) := by
  have h1 := dw_loop (F := FU) hP hk 10 FU 0 0 (by omega) (by unfold FU; omega)
  rw [show nI 0 = (0 : Int32) from rfl, ze64] at h1
  unfold fX3_darkWithout
  rw [h1]
  rfl
def suB (sl : List (Nat × Nat)) (k : Nat) : Bool := decide (dwL sl k 0 10 = wnL sl)
theorem su_iff {sl : List (Nat × Nat)} (hv : vS sl) {k : Nat} (hk : k < 10) : suB sl k = true ↔ ∃ c, c < 59049 ∧ fitB sl c = true ∧ dig k c = 0 := by
  unfold suB
  rw [decide_eq_true_iff]
  constructor
  · intro h
    have ht : ∀ y, (if y = k then 0 else tlN sl y) < 3 := fun y => by
      by_cases e : y = k
      · rw [if_pos e]; omega
      · rw [if_neg e]; exact tl_lt sl y
    refine ⟨tC (fun y => if y = k then 0 else tlN sl y) 0 10, tC_lt ht 10 0, decide_eq_true ?_, ?_⟩
    · have e : dL sl 0 10 (tC (fun y => if y = k then 0 else tlN sl y) 0 10) = _ := dO_tC ht 10 0
      rw [e, ← h]
      unfold dwL
      congr 1
      funext y
      unfold dwB
      by_cases e : y = k
      · rw [if_pos e, if_pos e, vL_0]
      · rw [if_neg e, if_neg e]
    · rw [dig_tC ht 10 0 k hk, if_pos (by omega)]
  · rintro ⟨c, -, h1, h2⟩
    have h1 : dL sl 0 10 c = wnL sl := of_decide_eq_true h1
    have hd := dig_ok hv (x := 0) (r := 10) (c := c) (dk := 0) (by omega) ((ze64 _).trans h1)
    refine an64 ?_ ?_
    · exact oO_le sl64 10 0 (fun i hi => by
        show dwB sl k (0 + i) ||| wnL sl = wnL sl
        unfold dwB
        by_cases e : 0 + i = k
        · rw [if_pos e]
          exact ze64 _
        · rw [if_neg e]
          exact (may_iff hv (by omega) (tl_lt _ _)).mpr (Nat.le_refl _))
    · rw [← h1]
      exact dO_le sl64 10 0 c (fun i hi => by
        show vL sl (0 + i) (dig i c) ||| dwB sl k (0 + i) = dwB sl k (0 + i)
        unfold dwB
        by_cases e : 0 + i = k
        · rw [if_pos e, show i = k by omega, h2, vL_0]
          rfl
        · rw [if_neg e]
          exact vL_le hv (by omega) (tl_lt _ _) (hd i hi))
def suV (sl : List (Nat × Nat)) (y : Nat) : Int32 := if suB sl y then 0 else 1 <<< (nI y &&& 31)
def suI (sl : List (Nat × Nat)) (x r : Nat) : Int32 := oO (· ||| ·) 0 (suV sl) x r
theorem su_loop {sl : List (Nat × Nat)} {σ : ST} (hP : PP sl 0 σ) : ∀ (r n x : Nat) (v : Int32), x + r = 10 → r < n → gX3_surelyTaken_4 FU σ n v (nI x) = some (v ||| suI sl x r, nI 10) := by
  intro r
  induction r with
  | zero =>
    intro n x v hx hn
    obtain ⟨m, rfl⟩ : ∃ m, n = m + 1 := ⟨n - 1, by omega⟩
    show gbX3_surelyTaken_4 FU σ _ v (nI x) = _
    unfold gbX3_surelyTaken_4
    rw [show x = 10 by omega, if_pos (by decide)]
    exact congrArg (fun w => some (w, nI 10)) (ior0 v).symm
  | succ r ih =>
    intro n x v hx hn
    obtain ⟨m, rfl⟩ : ∃ m, n = m + 1 := ⟨n - 1, by omega⟩
    show gbX3_surelyTaken_4 FU σ (gX3_surelyTaken_4 FU σ m) v (nI x) = _
    unfold gbX3_surelyTaken_4
    have e : suI sl x (r + 1) = suV sl x ||| suI sl (x + 1) r := rfl
    rw [if_neg (show ¬ (10 : Int32) ≤ nI x from nI_ge (a := x) (b := 10) (by omega) (by omega)), dwC hP (by omega), bd_some, hP.1, nI_1, e, ← as32]
    unfold suV suB
    by_cases c : dwL sl x 0 10 = wnL sl
    · rw [if_pos ((cmp0 _ _).mpr c), if_pos (decide_eq_true c), ih m (x + 1) _ (by omega) (by omega)]
    · rw [if_neg (fun e => c ((cmp0 _ _).mp e)), if_neg (by rw [decide_eq_false c]; decide), ih m (x + 1) _ (by omega) (by omega)]
/-- bits -/
theorem bit_1 : ∀ y : Fin 10, ∀ i : Fin 32, ((1 : Int32) <<< (nI y.1 &&& 31)).toBitVec.getLsbD i.1 = decide (i.1 = y.1) := by decide +kernel
theorem bit_f : ∀ i : Fin 32, (1023 : Int32).toBitVec.getLsbD i.1 = decide (i.1 < 10) := by decide +kernel
theorem bit_or (a b : Int32) (i : Nat) : (a ||| b).toBitVec.getLsbD i = (a.toBitVec.getLsbD i || b.toBitVec.getLsbD i) := BitVec.getLsbD_or ..
theorem bit_and (a b : Int32) (i : Nat) : (a &&& b).toBitVec.getLsbD i = (a.toBitVec.getLsbD i && b.toBitVec.getLsbD i) := BitVec.getLsbD_and ..
theorem bit_0 (i : Nat) : (0 : Int32).toBitVec.getLsbD i = false := BitVec.getLsbD_zero
theorem bit_mk {i : Nat} (hi : i < 32) : ∀ (r x c : Nat), x + r ≤ 10 → ((mkI x r c).toBitVec.getLsbD i = true ↔ x ≤ i ∧ i < x + r ∧ dig (i - x) c ≠ 0)
  | 0, x, c, _ => by
    have : (mkI x 0 c).toBitVec.getLsbD i = false := bit_0 i
    rw [this]
    exact ⟨fun h => (by cases h), fun h => by omega⟩
  | r + 1, x, c, hx => by
    have e : mkI x (r + 1) c = mkV x (c % 3) ||| mkI (x + 1) r (c / 3) := rfl
    have ih := bit_mk hi r (x + 1) (c / 3) (by omega)
    rw [e, bit_or, Bool.or_eq_true, ih]
    have hm : (mkV x (c % 3)).toBitVec.getLsbD i = true ↔ i = x ∧ c % 3 ≠ 0 := by
      unfold mkV
      by_cases h0 : c % 3 = 0
      · rw [if_pos h0, bit_0]
        exact ⟨fun h => (by cases h), fun h => absurd h0 h.2⟩
      · rw [if_neg h0, bit_1 ⟨x, by omega⟩ ⟨i, hi⟩, decide_eq_true_iff]
        exact ⟨fun h => ⟨h, h0⟩, fun h => h.1⟩
    rw [hm]
    by_cases h : i = x
    · subst h
      rw [Nat.sub_self]
      show _ ↔ _ ∧ _ ∧ c % 3 ≠ 0
      exact ⟨fun h => h.elim (fun h => ⟨by omega, by omega, h.2⟩) (fun h => by omega), fun h => Or.inl ⟨rfl, h.2.2⟩⟩
    · constructor
      · rintro (h2 | ⟨h1, h2, h3⟩)
        · exact absurd h2.1 h
        · refine ⟨by omega, by omega, ?_⟩
          rw [show i - x = (i - (x + 1)) + 1 by omega]
          exact h3
      · rintro ⟨h1, h2, h3⟩
        refine Or.inr ⟨by omega, by omega, ?_⟩
        rw [show i - x = (i - (x + 1)) + 1 by omega] at h3
        exact h3
theorem bit_su {sl : List (Nat × Nat)} {i : Nat} (hi : i < 32) : ∀ (r x : Nat), x + r ≤ 10 → ((suI sl x r).toBitVec.getLsbD i = true ↔ x ≤ i ∧ i < x + r ∧ suB sl i = false)
  | 0, x, _ => by
    have : (suI sl x 0).toBitVec.getLsbD i = false := bit_0 i
    rw [this]
    exact ⟨fun h => (by cases h), fun h => by omega⟩
  | r + 1, x, hx => by
    have e : suI sl x (r + 1) = suV sl x ||| suI sl (x + 1) r := rfl
    have ih := bit_su (sl := sl) hi r (x + 1) (by omega)
    rw [e, bit_or, Bool.or_eq_true, ih]
    have hm : (suV sl x).toBitVec.getLsbD i = true ↔ i = x ∧ suB sl x = false := by
      unfold suV
      cases h0 : suB sl x with
      | true =>
        rw [if_pos rfl, bit_0]
        exact ⟨fun h => (by cases h), fun h => by cases h.2⟩
      | false =>
        rw [if_neg (by decide), bit_1 ⟨x, by omega⟩ ⟨i, hi⟩, decide_eq_true_iff]
        exact ⟨fun h => ⟨h, rfl⟩, fun h => h.1⟩
    rw [hm]
    by_cases h : i = x
    · subst h
      exact ⟨fun h => h.elim (fun h => ⟨by omega, by omega, h.2⟩) (fun h => by omega), fun h => Or.inl ⟨rfl, h.2.2⟩⟩
    · exact ⟨fun h2 => h2.elim (fun h2 => absurd h2.1 h) (fun h2 => ⟨by omega, by omega, h2.2.2⟩), fun h2 => Or.inr ⟨by omega, by omega, h2.2.2⟩⟩
theorem bit_an {fit : Nat → Bool} {i : Nat} (hi : i < 32) : ∀ n, ((anA fit n).toBitVec.getLsbD i = true ↔ i < 10 ∧ ∀ c, c < n → fit c = true → dig i c ≠ 0)
  | 0 => by
    have : (anA fit 0).toBitVec.getLsbD i = decide (i < 10) := bit_f ⟨i, hi⟩
    rw [this, decide_eq_true_iff]
    exact ⟨fun h => ⟨h, fun c hc => by omega⟩, fun h => h.1⟩
  | n + 1 => by
    have ih := bit_an (fit := fit) hi n
    rw [anA]
    cases hf : fit n with
    | false =>
      rw [if_neg (by decide), ih]
      constructor
      · rintro ⟨h1, h2⟩
        refine ⟨h1, fun c hc h => ?_⟩
        by_cases e : c = n
        · rw [e, hf] at h
          cases h
        · exact h2 c (by omega) h
      · rintro ⟨h1, h2⟩
        exact ⟨h1, fun c hc h => h2 c (by omega) h⟩
    | true =>
      rw [if_pos rfl, bit_and, Bool.and_eq_true, ih, bit_mk hi 10 0 n (by omega), Nat.sub_zero]
      constructor
      · rintro ⟨⟨h1, h2⟩, -, -, h3⟩
        refine ⟨h1, fun c hc h => ?_⟩
        by_cases e : c = n
        · rw [e]
          exact h3
        · exact h2 c (by omega) h
      · rintro ⟨h1, h2⟩
        exact ⟨⟨h1, fun c hc h => h2 c (by omega) h⟩, by omega, by omega, h2 n (by omega) hf⟩
theorem st_sure : St_sure Inv := by
  intro S hI
  obtain ⟨-, -, -, ⟨sl, hv, s1, s2⟩, -, -⟩ := id hI
  obtain ⟨σ', h1, h2⟩ := layM false hv s2
  rw [show (if false = true then (1 : Int32) else 0) = 0 from rfl] at h1
  obtain ⟨σp, p1, p2⟩ := prC (S 12) hv s1
  have hinv := inv_fr (σp := σp) hI h2.2.2.2.2.1
  unfold fX10_sure fX11_sure
  rw [h1, p1, bd_some, bd_some, exC hv p2, bd_some, h2.1]
  by_cases hT : TL sl 0 10 = wnL sl
  · rw [if_pos hT, if1, if_neg (fun e => (no_iff hv).mp e hT)]
    have a1 := su_loop p2 10 FU 0 0 (by omega) (by unfold FU; omega)
    rw [show nI 0 = (0 : Int32) from rfl, ze32] at a1
    unfold fX3_surelyTaken
    rw [a1, bd_some, bd_some]
    refine ⟨_, _, rfl, rfl, ?_, hinv⟩
    show suI sl 0 10 = σ'.1 30
    rw [h2.2.2.2.1]
    apply Int32.toBitVec_inj.1
    apply BitVec.eq_of_getLsbD_eq
    intro i hi
    rw [Bool.eq_iff_iff, bit_su hi 10 0 (by omega), bit_an hi]
    constructor
    · rintro ⟨-, b2, b3⟩
      refine ⟨by omega, fun c hc hf hd => ?_⟩
      rw [(su_iff hv (show i < 10 by omega)).mpr ⟨c, hc, hf, hd⟩] at b3
      cases b3
    · rintro ⟨b1, b2⟩
      refine ⟨by omega, by omega, ?_⟩
      cases hs : suB sl i with
      | false => rfl
      | true =>
        obtain ⟨c, c1, c2, c3⟩ := (su_iff hv b1).mp hs
        exact absurd c3 (b2 c c1 c2)
  · rw [if_neg hT, if0, if_pos ((no_iff hv).mpr hT)]
    exact ⟨_, _, rfl, rfl, rfl, hinv⟩
/-- what a minute may show -/
def reI (sl : List (Nat × Nat)) (t x r : Nat) : Int32 := oO (· ||| ·) 0 (fun y => vI t y (tlN sl y)) x r
def gr (sl : List (Nat × Nat)) (t c y : Nat) : Nat := if chN sl y = 3 ∧ vI t y 2 ||| nI c = nI c then 2 else if 2 ≤ chN sl y ∧ vI t y 1 ||| nI c = nI c then 1 else 0
def gdL (sl : List (Nat × Nat)) (t c x r : Nat) : Int64 := oO (· ||| ·) 0 (fun y => vL sl y (gr sl t c y)) x r
def gsI (sl : List (Nat × Nat)) (t c x r : Nat) : Int32 := oO (· ||| ·) 0 (fun y => vI t y (gr sl t c y)) x r
def RR (t k : Nat) (σ : ST) : Prop := ∀ y, y < k → σ.2.1 5 y = vI t y 1 ∧ σ.2.1 6 y = vI t y 2
theorem ul_loop {t : Nat} {sl : List (Nat × Nat)} (ht : t < 16) : ∀ (r n x : Nat) (v : Int32) (σ : ST), x + r = 10 → r < n → PP sl 0 σ → RR t x σ → ∃ z : Int32 × Int32 × ST, gX3_unlikeRows_4 FU (nI t) n v (nI x) σ = some z ∧ z.1 = v ||| reI sl t x r ∧ PP sl 0 z.2.2 ∧ RR t 10 z.2.2 := by
  intro r
  induction r with
  | zero =>
    intro n x v σ hx hn hP hR
    obtain ⟨m, rfl⟩ : ∃ m, n = m + 1 := ⟨n - 1, by omega⟩
    have e : x = 10 := by omega
    subst e
    refine ⟨(v, nI 10, σ), ?_, (ior0 v).symm, hP, hR⟩
    show gbX3_unlikeRows_4 FU (nI t) _ v (nI 10) σ = _
    unfold gbX3_unlikeRows_4
    rw [if_pos (by decide)]
  | succ r ih =>
    intro n x v σ hx hn hP hR
    obtain ⟨m, rfl⟩ : ∃ m, n = m + 1 := ⟨n - 1, by omega⟩
    have e : gX3_unlikeRows_4 FU (nI t) (m + 1) v (nI x) σ = gbX3_unlikeRows_4 FU (nI t) (gX3_unlikeRows_4 FU (nI t) m) v (nI x) σ := rfl
    have er : reI sl t x (r + 1) = vI t x (tlN sl x) ||| reI sl t (x + 1) r := rfl
    have r1 := reachC (F := FU) (k := 1) (x := x) (t := t) (by omega) (by omega) ht
    have r2 := reachC (F := FU) (k := 0) (x := x) (t := t) (by omega) (by omega) ht
    rw [show hgtI 1 = hgtI (1 : Int32).toNatClampNeg from rfl] at r1
    rw [show hgtI 0 = hgtI (0 : Int32).toNatClampNeg from rfl] at r2
    have w1 : rC (hgtI (1 : Int32).toNatClampNeg) x t = vI t x 1 := rfl
    have w2 : rC (hgtI (0 : Int32).toNatClampNeg) x t = vI t x 2 := rfl
    have hP' : PP sl 0 (sA (sA σ 5 x (vI t x 1)) 6 x (vI t x 2)) := hP
    have hR' : RR t (x + 1) (sA (sA σ 5 x (vI t x 1)) 6 x (vI t x 2)) := fun y hy => by
      have e5 : (sA (sA σ 5 x (vI t x 1)) 6 x (vI t x 2)).2.1 5 y = if y = x then vI t x 1 else σ.2.1 5 y := rfl
      have e6 : (sA (sA σ 5 x (vI t x 1)) 6 x (vI t x 2)).2.1 6 y = if y = x then vI t x 2 else σ.2.1 6 y := rfl
      rw [e5, e6]
      by_cases c : y = x
      · rw [if_pos c, if_pos c, c]
        exact ⟨rfl, rfl⟩
      · rw [if_neg c, if_neg c]
        exact hR y (by omega)
    obtain ⟨z, g1, g2, g3⟩ := ih m (x + 1) (v ||| vI t x (tlN sl x)) _ (by omega) (by omega) hP' hR'
    have a2 : (sA (sA σ 5 x (vI t x 1)) 6 x (vI t x 2)).2.1 2 x = nI (chN sl x) := (hP.2.1 x (by omega) (by omega)).2.2
    have a5 : (sA (sA σ 5 x (vI t x 1)) 6 x (vI t x 2)).2.1 5 x = vI t x 1 := (hR' x (by omega)).1
    have a6 : (sA (sA σ 5 x (vI t x 1)) 6 x (vI t x 2)).2.1 6 x = vI t x 2 := (hR' x (by omega)).2
    have hl : tlN sl x = chN sl x - 1 := rfl
    rw [e, er]
    unfold gbX3_unlikeRows_4
    rw [if_neg (show ¬ (10 : Int32) ≤ nI x from nI_ge (a := x) (b := 10) (by omega) (by omega)), r1, bd_some, if_neg (nI_in (show x < 10 by omega) (by omega)), nI_clamp (by omega), nm_go, r2, bd_some, nm_go, w1, w2, a2, a5, a6, nI_1]
    refine ⟨z, ?_, by rw [g2]; exact as32 _ _ _, g3⟩
    rw [hl] at g1
    rcases ch_rng sl x with h | h | h
    · rw [h] at g1
      rw [h, if_neg (show ¬ nI 1 = (3 : Int32) by decide), if_neg (show ¬ nI 1 = (2 : Int32) by decide)]
      exact g1
    · rw [h] at g1
      rw [h, if_neg (show ¬ nI 2 = (3 : Int32) by decide), if_pos (show nI 2 = (2 : Int32) from rfl)]
      exact g1
    · rw [h] at g1
      rw [h, if_pos (show nI 3 = (3 : Int32) from rfl)]
      exact g1
theorem my_loop {F t c : Nat} {sl : List (Nat × Nat)} {σ : ST} (hP : PP sl 0 σ) (hR : RR t 10 σ) : ∀ (r n x : Nat) (v : Int64) (w : Int32), x + r = 10 → r < n → gX3_mayShow_8 F σ (nI c) n v w (nI x) = some (v ||| gdL sl t c x r, w ||| gsI sl t c x r, nI 10) := by
  intro r
  induction r with
  | zero =>
    intro n x v w hx hn
    obtain ⟨m, rfl⟩ : ∃ m, n = m + 1 := ⟨n - 1, by omega⟩
    have e1 : v ||| gdL sl t c x 0 = v := (sl64.co _ _).trans (sl64.ze _)
    have e2 : w ||| gsI sl t c x 0 = w := ior0 w
    show gbX3_mayShow_8 F σ (nI c) _ v w (nI x) = _
    rw [e1, e2]
    unfold gbX3_mayShow_8
    rw [show x = 10 by omega, if_pos (by decide)]
  | succ r ih =>
    intro n x v w hx hn
    obtain ⟨m, rfl⟩ : ∃ m, n = m + 1 := ⟨n - 1, by omega⟩
    obtain ⟨h0, h1, h2⟩ := hP.2.1 x (by omega) (by omega)
    obtain ⟨h5, h6⟩ := hR x (by omega)
    have e1 : gdL sl t c x (r + 1) = vL sl x (gr sl t c x) ||| gdL sl t c (x + 1) r := rfl
    have e2 : gsI sl t c x (r + 1) = vI t x (gr sl t c x) ||| gsI sl t c (x + 1) r := rfl
    show gbX3_mayShow_8 F σ (nI c) (gX3_mayShow_8 F σ (nI c) m) v w (nI x) = _
    unfold gbX3_mayShow_8
    rw [e1, e2, ← as64, ← as32, if_neg (show ¬ (10 : Int32) ≤ nI x from nI_ge (a := x) (b := 10) (by omega) (by omega)), if_neg (nI_in (show x < 10 by omega) (by omega)), nI_clamp (by omega), h0, h1, h2, h5, h6, nI_1, ih m (x + 1) _ _ (by omega) (by omega), ih m (x + 1) _ _ (by omega) (by omega), ih m (x + 1) _ _ (by omega) (by omega)]
    have z1 : v ||| vL sl x 0 = v := by
      rw [vL_0]
      exact (sl64.co _ _).trans (sl64.ze _)
    have z2 : w ||| vI t x 0 = w := ior0 w
    have one : ∀ (P : Prop) [Decidable P], P → ∀ {β : Type} (a b : β), (if P then a else b) = a := fun P _ h _ a b => if_pos h
    unfold gr
    rcases ch_rng sl x with h | h | h
    · rw [h, if_neg (show ¬ nI 1 = (3 : Int32) by decide), if_pos (show nI 1 < (2 : Int32) by decide), if_neg (show ¬ (1 = 3 ∧ vI t x 2 ||| nI c = nI c) from fun q => by omega), if_neg (show ¬ (2 ≤ 1 ∧ vI t x 1 ||| nI c = nI c) from fun q => by omega), z1, z2]
    · rw [h, if_neg (show ¬ nI 2 = (3 : Int32) by decide), if_neg (show ¬ nI 2 < (2 : Int32) by decide), if_neg (show ¬ (2 = 3 ∧ vI t x 2 ||| nI c = nI c) from fun q => by omega)]
      by_cases q : vI t x 1 ||| nI c = nI c
      · rw [if_pos ((sub32 _ _).mpr q), if_pos (show 2 ≤ 2 ∧ vI t x 1 ||| nI c = nI c from ⟨by omega, q⟩)]
      · rw [if_neg (fun e => q ((sub32 _ _).mp e)), if_neg (show ¬ (2 ≤ 2 ∧ vI t x 1 ||| nI c = nI c) from fun e => q e.2), z1, z2]
    · rw [h, if_pos (show nI 3 = (3 : Int32) from rfl), if_neg (show ¬ nI 3 < (2 : Int32) by decide)]
      by_cases q2 : vI t x 2 ||| nI c = nI c
      · rw [if_pos ((sub32 _ _).mpr q2), if_pos (show 3 = 3 ∧ vI t x 2 ||| nI c = nI c from ⟨rfl, q2⟩)]
      · rw [if_neg (fun e => q2 ((sub32 _ _).mp e)), if_neg (show ¬ (3 = 3 ∧ vI t x 2 ||| nI c = nI c) from fun e => q2 e.2)]
        by_cases q : vI t x 1 ||| nI c = nI c
        · rw [if_pos ((sub32 _ _).mpr q), if_pos (show 2 ≤ 3 ∧ vI t x 1 ||| nI c = nI c from ⟨by omega, q⟩)]
        · rw [if_neg (fun e => q ((sub32 _ _).mp e)), if_neg (show ¬ (2 ≤ 3 ∧ vI t x 1 ||| nI c = nI c) from fun e => q e.2), z1, z2]
def msB (sl : List (Nat × Nat)) (t c : Nat) : Bool := decide (gsI sl t c 0 10 = nI c) && decide (gdL sl t c 0 10 = wnL sl)
def pB (sl : List (Nat × Nat)) (t c : Nat) : Bool := decide (nI c ||| reI sl t 0 10 = reI sl t 0 10) && msB sl t c
theorem myC {t c : Nat} {sl : List (Nat × Nat)} {σ : ST} (hP : PP sl 0 σ) (hR : RR t 10 σ) : fX3_mayShow FU σ (nI c) = some (if msB sl t c then 1 else 0) := by
  have h1 := my_loop (F := FU) (c := c) hP hR 10 FU 0 0 0 (by omega) (by unfold FU; omega)
  rw [show nI 0 = (0 : Int32) from rfl, ze64, ze32] at h1
  unfold fX3_mayShow msB
  rw [h1, bd_some, hP.1]
  by_cases q1 : gsI sl t c 0 10 = nI c
  · rw [if_pos q1, decide_eq_true q1]
    by_cases q2 : gdL sl t c 0 10 = wnL sl
    · rw [if_pos ((cmp0 _ _).mpr q2), decide_eq_true q2]
      rfl
    · rw [if_neg (fun e => q2 ((cmp0 _ _).mp e)), decide_eq_false q2]
      rfl
  · rw [if_neg q1, decide_eq_false q1]
    rfl
theorem uc_loop {t : Nat} {sl : List (Nat × Nat)} {σ : ST} {v1 : Int32} (hP : PP sl 0 σ) (hR : RR t 10 σ) : ∀ (r n c : Nat), c + r = 1024 → r < n → gX3_unlikeRows_95 FU σ v1 (reI sl t 0 10) n (nI (fb_ct (pB sl t) c)) (nI c) = some (nI (fb_ct (pB sl t) 1024), nI 1024) := by
  intro r
  induction r with
  | zero =>
    intro n c hx hn
    obtain ⟨m, rfl⟩ : ∃ m, n = m + 1 := ⟨n - 1, by omega⟩
    have e : c = 1024 := by omega
    subst e
    show gbX3_unlikeRows_95 FU σ v1 _ _ _ (nI 1024) = _
    unfold gbX3_unlikeRows_95
    rw [if_pos (by decide)]
  | succ r ih =>
    intro n c hx hn
    obtain ⟨m, rfl⟩ : ∃ m, n = m + 1 := ⟨n - 1, by omega⟩
    have i1 := ih m (c + 1) (by omega) (by omega)
    rw [fb_ct_succ] at i1
    show gbX3_unlikeRows_95 FU σ v1 _ (gX3_unlikeRows_95 FU σ v1 (reI sl t 0 10) m) _ (nI c) = _
    unfold gbX3_unlikeRows_95
    rw [if_neg (show ¬ (1023 : Int32) < nI c from nI_nlt (a := 1023) (b := c) (by omega) (by omega)), myC hP hR, bd_some, nI_1, nI_1]
    have ep : pB sl t c = (decide (nI c ||| reI sl t 0 10 = reI sl t 0 10) && msB sl t c) := rfl
    by_cases q : nI c ||| reI sl t 0 10 = reI sl t 0 10
    · rw [decide_eq_true q, Bool.true_and] at ep
      rw [if_pos ((sub32 _ _).mpr q)]
      rw [ep] at i1
      cases hm : msB sl t c with
      | true =>
        rw [hm] at i1
        rw [show (if true = true then (1 : Int32) else 0) = 1 from rfl, if1]
        exact i1
      | false =>
        rw [hm] at i1
        rw [show (if false = true then (1 : Int32) else 0) = 0 from rfl, if0]
        exact i1
    · rw [decide_eq_false q, Bool.false_and] at ep
      rw [if_neg (fun e => q ((sub32 _ _).mp e))]
      rw [ep] at i1
      exact i1
theorem unC {t : Nat} {sl : List (Nat × Nat)} {σ : ST} (hP : PP sl 0 σ) (ht : t < 16) : ∃ σ', fX3_unlikeRows FU σ (nI t) = some (nI (fb_ct (pB sl t) 1024), σ') ∧ PP sl 0 σ' := by
  obtain ⟨z, g1, g2, g3, g4⟩ := ul_loop ht 10 FU 0 0 σ (by omega) (by unfold FU; omega) hP (fun y hy => by omega)
  rw [show nI 0 = (0 : Int32) from rfl] at g1
  rw [ze32] at g2
  have h1 := uc_loop (v1 := nI t) g3 g4 1024 FU 0 (by omega) (by unfold FU; omega)
  have h1 : gX3_unlikeRows_95 FU z.2.2 (nI t) (reI sl t 0 10) FU 0 0 = some (nI (fb_ct (pB sl t) 1024), nI 1024) := h1
  unfold fX3_unlikeRows
  rw [g1, bd_some, g2, h1]
  exact ⟨_, rfl, g3⟩
theorem gr_lt (sl : List (Nat × Nat)) (t c y : Nat) : gr sl t c y < 3 := by
  unfold gr
  by_cases h1 : chN sl y = 3 ∧ vI t y 2 ||| nI c = nI c
  · rw [if_pos h1]; omega
  · rw [if_neg h1]
    by_cases h2 : 2 ≤ chN sl y ∧ vI t y 1 ||| nI c = nI c
    · rw [if_pos h2]; omega
    · rw [if_neg h2]; omega
theorem gr_tl (sl : List (Nat × Nat)) (t c y : Nat) : gr sl t c y ≤ tlN sl y ∧ vI t y (gr sl t c y) ||| nI c = nI c := by
  have hl : tlN sl y = chN sl y - 1 := rfl
  unfold gr
  by_cases h1 : chN sl y = 3 ∧ vI t y 2 ||| nI c = nI c
  · rw [if_pos h1]
    exact ⟨by omega, h1.2⟩
  · rw [if_neg h1]
    by_cases h2 : 2 ≤ chN sl y ∧ vI t y 1 ||| nI c = nI c
    · rw [if_pos h2]
      exact ⟨by omega, h2.2⟩
    · rw [if_neg h2]
      exact ⟨by omega, ze32 _⟩
theorem gr_max {sl : List (Nat × Nat)} {t c y d : Nat} (hd : d < 3) (h1 : d ≤ tlN sl y) (h2 : vI t y d ||| nI c = nI c) : d ≤ gr sl t c y := by
  have hl : tlN sl y = chN sl y - 1 := rfl
  have hr := ch_rng sl y
  unfold gr
  by_cases c1 : chN sl y = 3 ∧ vI t y 2 ||| nI c = nI c
  · rw [if_pos c1]; omega
  · rw [if_neg c1]
    rcases (show d = 0 ∨ d = 1 ∨ d = 2 by omega) with rfl | rfl | rfl
    · omega
    · rw [if_pos ⟨by omega, h2⟩]
      exact Nat.le_refl _
    · exact absurd ⟨by omega, h2⟩ c1
theorem pB_iff {sl : List (Nat × Nat)} (hv : vS sl) {t c : Nat} (ht : t < 16) : pB sl t c = true ↔ ∃ k, k < 59049 ∧ fitB sl k = true ∧ dI t 0 10 k = nI c := by
  unfold pB msB
  rw [Bool.and_eq_true, Bool.and_eq_true, decide_eq_true_iff, decide_eq_true_iff, decide_eq_true_iff]
  constructor
  · rintro ⟨-, h1, h2⟩
    refine ⟨tC (gr sl t c) 0 10, tC_lt (gr_lt sl t c) 10 0, decide_eq_true ?_, ?_⟩
    · have e : dL sl 0 10 (tC (gr sl t c) 0 10) = gdL sl t c 0 10 := dO_tC (gr_lt sl t c) 10 0
      rw [e, h2]
    · have e : dI t 0 10 (tC (gr sl t c) 0 10) = gsI sl t c 0 10 := dO_tC (gr_lt sl t c) 10 0
      rw [e, h1]
  · rintro ⟨k, -, h1, h2⟩
    have h1 : dL sl 0 10 k = wnL sl := of_decide_eq_true h1
    have hd := dig_ok hv (x := 0) (r := 10) (c := k) (dk := 0) (by omega) ((ze64 _).trans h1)
    have hc : ∀ i, i < 10 → vI t (0 + i) (dig i k) ||| nI c = nI c := fun i hi => by
      rw [← h2]
      exact dO_at sl32 (val := vI t) 10 0 k i hi
    have hm : ∀ i, i < 10 → dig i k ≤ gr sl t c (0 + i) := fun i hi => gr_max (dig_lt _ _) (hd i hi) (hc i hi)
    have s1 : gsI sl t c 0 10 = nI c := by
      refine an32 ?_ ?_
      · exact oO_le sl32 10 0 (fun i hi => (gr_tl sl t c (0 + i)).2)
      · rw [← h2]
        have := dO_le sl32 (val := vI t) (B := fun y => vI t y (gr sl t c y)) 10 0 k (fun i hi => vI_le ht (by omega) (gr_lt _ _ _ _) (hm i hi))
        exact this
    refine ⟨?_, s1, ?_⟩
    · rw [← s1]
      exact oO_2 sl32 10 0 (fun i hi => vI_le ht (by omega) (tl_lt _ _) (gr_tl sl t _ (0 + i)).1)
    · refine an64 ?_ ?_
      · exact oO_le sl64 10 0 (fun i hi => (may_iff hv (by omega) (gr_lt _ _ _ _)).mpr (gr_tl sl t c (0 + i)).1)
      · rw [← h1]
        exact dO_le sl64 (val := vL sl) (B := fun y => vL sl y (gr sl t c y)) 10 0 k (fun i hi => vL_le hv (by omega) (gr_lt _ _ _ _) (hm i hi))
def uNN (sl : List (Nat × Nat)) (t : Nat) : Nat := fb_ct (pB sl t) 1024
def tmS (u : Nat → Nat) : Nat → Nat → Int32 → Nat → Int32
  | 0, _, b, _ => b
  | r + 1, t, b, m => if u t ≤ m then tmS u r (t + 1) b m else tmS u r (t + 1) (nI t) (u t)
theorem uNN_le (sl : List (Nat × Nat)) (t : Nat) : uNN sl t ≤ 1024 := fb_ct_le _ _
theorem tm_loop {sl : List (Nat × Nat)} : ∀ (r n t : Nat) (b : Int32) (m : Nat) (σ : ST), t + r = 16 → r < n → m ≤ 1024 → PP sl 0 σ → ∃ z : Int32 × Int32 × Int32 × ST, gX3_tellingMinute_6 FU n b (nI m) (nI t) σ = some z ∧ z.1 = tmS (uNN sl) r t b m := by
  intro r
  induction r with
  | zero =>
    intro n t b k σ hi hn hk hP
    obtain ⟨m, rfl⟩ : ∃ m, n = m + 1 := ⟨n - 1, by omega⟩
    refine ⟨(b, nI k, nI t, σ), ?_, rfl⟩
    show gbX3_tellingMinute_6 FU _ b (nI k) (nI t) σ = _
    unfold gbX3_tellingMinute_6
    rw [show t = 16 by omega, if_pos (by decide)]
  | succ r ih =>
    intro n t b k σ hi hn hk hP
    obtain ⟨m, rfl⟩ : ∃ m, n = m + 1 := ⟨n - 1, by omega⟩
    obtain ⟨σ', h1, h2⟩ := unC hP (show t < 16 by omega)
    have hu := uNN_le sl t
    have eu : fb_ct (pB sl t) 1024 = uNN sl t := rfl
    have e : gX3_tellingMinute_6 FU (m + 1) b (nI k) (nI t) σ = gbX3_tellingMinute_6 FU (gX3_tellingMinute_6 FU m) b (nI k) (nI t) σ := rfl
    rw [e, tmS]
    unfold gbX3_tellingMinute_6
    rw [if_neg (show ¬ (16 : Int32) ≤ nI t from nI_ge (a := t) (b := 16) (by omega) (by omega)), h1, bd_some, nI_1, eu]
    by_cases q : uNN sl t ≤ k
    · rw [if_pos (nI_le q (by omega)), if_pos q]
      exact ih m (t + 1) b k σ' (by omega) (by omega) hk h2
    · rw [if_neg (nI_ge (by omega) (by omega)), if_neg q]
      exact ih m (t + 1) (nI t) (uNN sl t) σ' (by omega) (by omega) hu h2
theorem n24_loop {F t : Nat} {σ : ST} {v1 v2 : Int32} {p : Nat → Bool} (ht : t < 16) (hp : ∀ j, j < 1024 → (σ.2.1 31 (1024 * t + j) = 0 ↔ p j = false)) : ∀ (r n j : Nat), j + r = 1024 → r < n → gX11_next_24 F σ v1 v2 (nI t) n (nI (fb_ct p j)) (nI j) = some (nI (fb_ct p 1024), nI 1024) := by
  intro r
  induction r with
  | zero =>
    intro n j hx hn
    obtain ⟨m, rfl⟩ : ∃ m, n = m + 1 := ⟨n - 1, by omega⟩
    have e : j = 1024 := by omega
    subst e
    show gbX11_next_24 F σ v1 v2 (nI t) _ _ (nI 1024) = _
    unfold gbX11_next_24
    rw [if_pos (by decide)]
  | succ r ih =>
    intro n j hx hn
    obtain ⟨m, rfl⟩ : ∃ m, n = m + 1 := ⟨n - 1, by omega⟩
    have i1 := ih m (j + 1) (by omega) (by omega)
    rw [fb_ct_succ] at i1
    show gbX11_next_24 F σ v1 v2 (nI t) (gX11_next_24 F σ v1 v2 (nI t) m) _ (nI j) = _
    unfold gbX11_next_24
    have e1 : (1024 : Int32) * nI t + nI j = nI (1024 * t + j) := by
      rw [show (1024 : Int32) = nI 1024 from rfl, pk_mul, nI_add]
    rw [if_neg (show ¬ (1024 : Int32) ≤ nI j from nI_ge (a := j) (b := 1024) (by omega) (by omega)), e1, if_neg (nI_in (show 1024 * t + j < 16384 by omega) (by omega)), nI_clamp (by omega), nI_1, nI_1, Int32.add_zero]
    cases hj : p j with
    | false =>
      rw [hj] at i1
      rw [if_pos ((hp j (by omega)).mpr hj)]
      exact i1
    | true =>
      rw [hj] at i1
      rw [if_neg (fun e => by rw [(hp j (by omega)).mp e] at hj; cases hj)]
      exact i1
theorem n12_loop {sl : List (Nat × Nat)} {σ : ST} (hp : ∀ t j, t < 16 → j < 1024 → (σ.2.1 31 (1024 * t + j) = 0 ↔ pB sl t j = false)) : ∀ (r n t : Nat) (b : Int32) (m : Nat), t + r = 16 → r < n → m ≤ 1024 → ∃ z : Int32 × Int32 × Int32, gX11_next_12 FU σ n b (nI m) (nI t) = some z ∧ z.1 = tmS (uNN sl) r t b m := by
  intro r
  induction r with
  | zero =>
    intro n t b k hi hn hk
    obtain ⟨m, rfl⟩ : ∃ m, n = m + 1 := ⟨n - 1, by omega⟩
    refine ⟨(b, nI k, nI t), ?_, rfl⟩
    show gbX11_next_12 FU σ _ b (nI k) (nI t) = _
    unfold gbX11_next_12
    rw [show t = 16 by omega, if_pos (by decide)]
  | succ r ih =>
    intro n t b k hi hn hk
    obtain ⟨m, rfl⟩ : ∃ m, n = m + 1 := ⟨n - 1, by omega⟩
    have h1 := n24_loop (F := FU) (v1 := b) (v2 := nI k) (p := pB sl t) (show t < 16 by omega) (fun j hj => hp t j (by omega) hj) 1024 FU 0 (by omega) (by unfold FU; omega)
    have h1 : gX11_next_24 FU σ b (nI k) (nI t) FU 0 0 = some (nI (uNN sl t), nI 1024) := h1
    have hu := uNN_le sl t
    have e : gX11_next_12 FU σ (m + 1) b (nI k) (nI t) = gbX11_next_12 FU σ (gX11_next_12 FU σ m) b (nI k) (nI t) := rfl
    rw [e, tmS]
    unfold gbX11_next_12
    rw [if_neg (show ¬ (16 : Int32) ≤ nI t from nI_ge (a := t) (b := 16) (by omega) (by omega)), h1, bd_some, nI_1]
    by_cases q : uNN sl t ≤ k
    · rw [if_pos (nI_le q (by omega)), if_pos q, if_pos (nI_le q (by omega))]
      exact ih m (t + 1) b k (by omega) (by omega) hk
    · rw [if_neg (nI_ge (by omega) (by omega)), if_neg q, if_neg (nI_ge (by omega) (by omega))]
      exact ih m (t + 1) (nI t) (uNN sl t) (by omega) (by omega) hu
theorem tm_0 {u : Nat → Nat} : ∀ (r t : Nat) (b : Int32), (∀ t', t ≤ t' → t' < t + r → u t' = 0) → tmS u r t b 0 = b
  | 0, _, _, _ => rfl
  | r + 1, t, b, h => by
    rw [tmS, if_pos (by rw [h t (by omega) (by omega)]; exact Nat.le_refl _)]
    exact tm_0 r (t + 1) b (fun t' a c => h t' (by omega) (by omega))
theorem st_next : St_next Inv := by
  intro S hI
  obtain ⟨-, -, -, ⟨sl, hv, s1, s2⟩, -, -⟩ := id hI
  obtain ⟨σ', h1, h2⟩ := layM true hv s2
  rw [show (if true = true then (1 : Int32) else 0) = 1 from rfl] at h1
  obtain ⟨σp, p1, p2⟩ := prC (S 12) hv s1
  have hinv : ∀ σp, Inv (uS (uS S 12 σp) 20 σ') := fun σp => inv_fr (σp := σp) hI h2.2.2.2.2.1
  have hsh := h2.2.2.2.2.2.2 rfl
  have hp : ∀ t j, t < 16 → j < 1024 → (σ'.2.1 31 (1024 * t + j) = 0 ↔ pB sl t j = false) := by
    intro t j ht hj
    rw [hsh _ (by omega)]
    have key : (∃ c', c' < 59049 ∧ fitB sl c' = true ∧ shP c' (1024 * t + j) 0) ↔ pB sl t j = true := by
      rw [pB_iff hv ht]
      constructor
      · rintro ⟨c, c1, c2, t', a, b, d⟩
        have hl := dI_lo (t := t') b 10 0 c (by omega)
        have hl2 := hl.2
        have et : t' = t := by omega
        subst et
        refine ⟨c, c1, c2, ?_⟩
        rw [hl.1]
        exact congrArg nI (by omega)
      · rintro ⟨c, c1, c2, c3⟩
        refine ⟨c, c1, c2, t, by omega, ht, ?_⟩
        rw [c3, nI_clamp (by omega)]
    rw [key]
    cases pB sl t j
    · exact ⟨fun _ => rfl, fun _ h => by cases h⟩
    · exact ⟨fun h => absurd rfl h, fun h => by cases h⟩
  obtain ⟨z, n1, n2⟩ := n12_loop hp 16 FU 0 (-9) 0 (by omega) (by unfold FU; omega) (by omega)
  have n1 : gX11_next_12 FU σ' FU (-9) 0 0 = some z := n1
  unfold fX10_next fX11_next
  rw [h1, p1, bd_some, bd_some, exC hv p2, bd_some, n1, bd_some]
  by_cases hT : TL sl 0 10 = wnL sl
  · rw [if_pos hT, if1]
    obtain ⟨y, t1, t2⟩ := tm_loop (sl := sl) 16 FU 0 0 0 σp (by omega) (by unfold FU; omega) (by omega) p2
    have t1 : gX3_tellingMinute_6 FU FU 0 0 0 σp = some y := t1
    unfold fX3_tellingMinute
    rw [t1, bd_some, bd_some]
    refine ⟨_, _, rfl, rfl, ?_, hinv _⟩
    show y.1 = z.1
    rw [t2, n2]
    obtain ⟨c, c1, c2⟩ := (ex_iff hv).mp hT
    have hl := dI_lo (t := 0) (by omega) 10 0 c (by omega)
    have hu : 0 < uNN sl 0 := fb_ct_pos.mpr ⟨(dI 0 0 10 c).toNatClampNeg, hl.2, (pB_iff hv (by omega)).mpr ⟨c, c1, c2, hl.1⟩⟩
    have e : ∀ b : Int32, tmS (uNN sl) 16 0 b 0 = tmS (uNN sl) 15 1 (nI 0) (uNN sl 0) := fun b => by
      show (if uNN sl 0 ≤ 0 then _ else _) = _
      rw [if_neg (by omega)]
    rw [e, e]
  · rw [if_neg hT, if0]
    refine ⟨_, _, rfl, rfl, ?_, hinv _⟩
    show -9 = z.1
    rw [n2, tm_0]
    intro t _ ht
    refine fb_ct_zero.mpr (fun k _ => ?_)
    cases hb : pB sl t k with
    | false => rfl
    | true =>
      obtain ⟨c, c1, c2, -⟩ := (pB_iff hv (by omega)).mp hb
      exact absurd ((ex_iff hv).mpr ⟨c, c1, c2⟩) hT
