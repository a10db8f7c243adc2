/-! where one hides -/
def vwS (q : H4) (y : Nat) : Int32 := if q.2.2.1 ≤ y ∧ y ≤ q.2.2.2 then btI q.1 q.2.1 else 0
theorem vwC {F y i : Nat} {hl : List H4} {σ : ST} {q : H4} (hl3 : hl.length ≤ 3) (hq : hl[i]? = some q) (ho : okH q) (ha : at4 q (σ.2.1 (10 + i)) 0) (hy : y < 6) : fX4_view F σ (nI i) (nI y) = some (vwS q y) := by
  have hi := (List.getElem?_eq_some_iff.mp hq).1
  obtain ⟨o1, o2, o3, o4⟩ := ho
  have key : ∀ r : Nat, σ.2.1 r (2 : Int32).toNatClampNeg = nI q.2.2.1 → σ.2.1 r (3 : Int32).toNatClampNeg = nI q.2.2.2 → σ.2.1 r (0 : Int32).toNatClampNeg = nI q.1 → σ.2.1 r (1 : Int32).toNatClampNeg = nI q.2.1 →
      (if nI y < σ.2.1 r (2 : Int32).toNatClampNeg then some (0 : Int32) else if σ.2.1 r (3 : Int32).toNatClampNeg < nI y then some (0 : Int32) else (fX10_columnBits F (σ.2.1 r (0 : Int32).toNatClampNeg) (σ.2.1 r (1 : Int32).toNatClampNeg)).bind fun r8 => some r8) = some (vwS q y) := by
    intro r g2 g3 g0 g1
    unfold vwS
    rw [g2, g3, g0, g1, colb o1 o2, bd_some]
    by_cases c1 : y < q.2.2.1
    · rw [if_pos (nI_lt c1 (by omega)), if_neg (by omega)]
    · rw [if_neg (nI_nlt (by omega) (by omega))]
      by_cases c2 : q.2.2.2 < y
      · rw [if_pos (nI_lt c2 (by omega)), if_neg (by omega)]
      · rw [if_neg (nI_nlt (by omega) (by omega)), if_pos (by omega)]
  unfold fX4_view
  rcases (show i = 0 ∨ i = 1 ∨ i = 2 by omega) with rfl | rfl | rfl
  · rw [if_pos (show nI 0 = (0 : Int32) from rfl)]
    exact key 10 ha.2.2.1 ha.2.2.2 ha.1 ha.2.1
  · rw [if_neg (show ¬ nI 1 = (0 : Int32) by decide), if_pos (show nI 1 = (1 : Int32) from rfl)]
    exact key 11 ha.2.2.1 ha.2.2.2 ha.1 ha.2.1
  · rw [if_neg (show ¬ nI 2 = (0 : Int32) by decide), if_neg (show ¬ nI 2 = (1 : Int32) by decide), if_pos (show nI 2 = (2 : Int32) from rfl)]
    exact key 12 ha.2.2.1 ha.2.2.2 ha.1 ha.2.1
def wtS (l : List H4) (y : Nat) (v : Int32) : Int32 := l.foldl (fun v q => v ||| vwS q y) v
theorem wt_drop {l : List H4} {y i : Nat} {v : Int32} {q : H4} (hq : l[i]? = some q) : wtS (l.drop i) y v = wtS (l.drop (i + 1)) y (v ||| vwS q y) := by
  obtain ⟨h1, h2⟩ := List.getElem?_eq_some_iff.mp hq
  unfold wtS
  rw [List.drop_eq_getElem_cons h1, List.foldl_cons, h2]
theorem wt_and {x : Int32} {y : Nat} : ∀ (l : List H4) (v : Int32), (x &&& wtS l y v = 0) ↔ (x &&& v = 0 ∧ ∀ q ∈ l, x &&& vwS q y = 0)
  | [], v => ⟨fun h => ⟨h, fun q hq => by simp at hq⟩, fun h => h.1⟩
  | q :: l, v => by
    have e : wtS (q :: l) y v = wtS l y (v ||| vwS q y) := rfl
    rw [e, wt_and l, iand_or]
    constructor
    · rintro ⟨⟨a, b⟩, c⟩
      refine ⟨a, fun p hp => ?_⟩
      rcases List.mem_cons.mp hp with rfl | hp
      · exact b
      · exact c p hp
    · rintro ⟨a, b⟩
      exact ⟨⟨a, b q List.mem_cons_self⟩, fun p hp => b p (List.mem_cons_of_mem _ hp)⟩
theorem wt_loop {F y : Nat} {hl : List H4} {σ σb : ST} (hn : σ.1 3 = nI hl.length) (h3 : hl.length ≤ 3) (ho : ∀ q ∈ hl, okH q) (ha : ∀ (i : Nat) (q : H4), hl[i]? = some q → at4 q (σ.2.1 (10 + i)) 0) (hy : y < 6) : ∀ (r n i : Nat) (v : Int32), i + r = hl.length → r < n → gX2_watchedCells_4 F σb σ (nI y) n v (nI i) = some (wtS (hl.drop i) y v, nI hl.length) := by
  intro r
  induction r with
  | zero =>
    intro n i v hi hn2
    obtain ⟨m, rfl⟩ : ∃ m, n = m + 1 := ⟨n - 1, by omega⟩
    show gbX2_watchedCells_4 F σb σ (nI y) _ v (nI i) = _
    unfold gbX2_watchedCells_4
    rw [hn, if_pos (nI_le (by omega) (by omega)), List.drop_eq_nil_of_le (by omega), show i = hl.length by omega]
    rfl
  | succ r ih =>
    intro n i v hi hn2
    obtain ⟨m, rfl⟩ : ∃ m, n = m + 1 := ⟨n - 1, by omega⟩
    obtain ⟨q, hq, hqm⟩ := at_get (show i < hl.length by omega)
    show gbX2_watchedCells_4 F σb σ (nI y) (gX2_watchedCells_4 F σb σ (nI y) m) v (nI i) = _
    unfold gbX2_watchedCells_4
    rw [hn, if_neg (nI_ge (by omega) (by omega)), vwC h3 hq (ho q hqm) (ha i q hq) hy, bd_some, nI_1, ih m (i + 1) _ (by omega) (by omega), wt_drop hq]
theorem in_gen2 (F : Nat) (x a y : Int32) : fX11_in F x.toInt64 a.toInt64 y.toInt64 = some (if a.toInt ≤ x.toInt ∧ x.toInt ≤ y.toInt then 1 else 0) := by
  unfold fX11_in
  by_cases h1 : x.toInt < a.toInt
  · rw [if_pos ((lg_cmp_lt _ _).mpr ((fa_wide_lt _ _).mpr ((fa_lt _ _).mpr h1))), if_neg (by omega)]
  · rw [if_neg (fun h => h1 ((fa_lt _ _).mp ((fa_wide_lt _ _).mp ((lg_cmp_lt _ _).mp h))))]
    by_cases h2 : y.toInt < x.toInt
    · rw [if_pos ((lg_cmp_gt _ _).mpr ((fa_wide_lt _ _).mpr ((fa_lt _ _).mpr h2))), if_neg (by omega)]
    · rw [if_neg (fun h => h2 ((fa_lt _ _).mp ((fa_wide_lt _ _).mp ((lg_cmp_gt _ _).mp h)))), if_pos (by omega)]
theorem in_n {F x a b : Nat} (hx : x < 2 ^ 31) (ha : a < 2 ^ 31) (hb : b < 2 ^ 31) : fX11_in F (nI x).toInt64 (nI a).toInt64 (nI b).toInt64 = some (if a ≤ x ∧ x ≤ b then 1 else 0) := by
  rw [in_gen2, nI_toInt hx, nI_toInt ha, nI_toInt hb]
  by_cases h : a ≤ x ∧ x ≤ b
  · rw [if_pos (by omega), if_pos h]
  · rw [if_neg (by omega), if_neg h]
def alS (l : List H4) (y : Nat) (mo : Int32) : Bool := l.all (fun q => decide (mo &&& vwS q y = 0))
theorem al_drop {l : List H4} {y i : Nat} {mo : Int32} {q : H4} (hq : l[i]? = some q) : alS (l.drop i) y mo = (decide (mo &&& vwS q y = 0) && alS (l.drop (i + 1)) y mo) := by
  obtain ⟨h1, h2⟩ := List.getElem?_eq_some_iff.mp hq
  unfold alS
  rw [List.drop_eq_getElem_cons h1, List.all_cons, h2]
theorem hid_loop {F y : Nat} {hl : List H4} {σ : ST} {v1 v2 v4 mo : Int32} (hn : σ.1 12 = nI hl.length) (h3 : hl.length ≤ 3) (ho : ∀ q ∈ hl, okH q) (ha : ∀ (i : Nat) (q : H4), hl[i]? = some q → at4 q (σ.2.1 8) (4 * i)) (hy : y < 6) : ∀ (r n i : Nat) (b : Bool), i + r = hl.length → r < n → gX11_isHidden_35 F σ v1 v2 (nI y) v4 mo n (if b then 1 else 0) (nI i) = some (if b && alS (hl.drop i) y mo then 1 else 0, nI hl.length) := by
  intro r
  induction r with
  | zero =>
    intro n i b hi hn2
    obtain ⟨m, rfl⟩ : ∃ m, n = m + 1 := ⟨n - 1, by omega⟩
    show gbX11_isHidden_35 F σ v1 v2 (nI y) v4 mo _ _ (nI i) = _
    unfold gbX11_isHidden_35
    rw [hn, if_pos (nI_le (by omega) (by omega)), List.drop_eq_nil_of_le (by omega), show i = hl.length by omega]
    simp [alS]
  | succ r ih =>
    intro n i b hi hn2
    obtain ⟨m, rfl⟩ : ∃ m, n = m + 1 := ⟨n - 1, by omega⟩
    obtain ⟨q, hq, hqm⟩ := at_get (show i < hl.length by omega)
    obtain ⟨g0, g1, g2, g3⟩ := ha i q hq
    obtain ⟨o1, o2, o3, o4⟩ := ho q hqm
    have i1 := ih m (i + 1) true (by omega) (by omega)
    have i0 := ih m (i + 1) false (by omega) (by omega)
    simp only [if_true, Bool.true_and, Bool.false_and, Bool.false_eq_true, if_false] at i1 i0
    show gbX11_isHidden_35 F σ v1 v2 (nI y) v4 mo (gX11_isHidden_35 F σ v1 v2 (nI y) v4 mo m) _ (nI i) = _
    unfold gbX11_isHidden_35
    rw [hn, if_neg (nI_ge (by omega) (by omega)), m41, m42, m43, m40, nI_1, i1, i0, if_neg (nI_in (show 4 * i + 2 < 12 by omega) (by omega)), if_neg (nI_in (show 4 * i + 3 < 12 by omega) (by omega)), nI_clamp (show 4 * i + 2 < 2 ^ 31 by omega), nI_clamp (show 4 * i + 3 < 2 ^ 31 by omega), g2, g3, in_n (by omega) (by omega) (by omega), bd_some, if_neg (nI_in (show 4 * i < 12 by omega) (by omega)), if_neg (nI_in (show 4 * i + 1 < 12 by omega) (by omega)), nI_clamp (show 4 * i < 2 ^ 31 by omega), nI_clamp (show 4 * i + 1 < 2 ^ 31 by omega), g0, g1, bitsM, bd_some, al_drop hq]
    have ev : vwS q y = if q.2.2.1 ≤ y ∧ y ≤ q.2.2.2 then btI q.1 q.2.1 else 0 := rfl
    by_cases c1 : q.2.2.1 ≤ y ∧ y ≤ q.2.2.2
    · rw [if_pos c1] at ev
      rw [if_pos c1, if1, ev]
      by_cases c2 : mo &&& btI q.1 q.2.1 = 0
      · rw [if_pos c2, decide_eq_true c2, Bool.true_and]
        cases b with
        | true => rfl
        | false => rfl
      · rw [if_neg c2, decide_eq_false c2, Bool.false_and, Bool.and_false]
        cases b with
        | true => rfl
        | false => rfl
    · rw [if_neg c1] at ev
      rw [if_neg c1, if0, ev, iand_0, decide_eq_true rfl, Bool.true_and]
      cases b with
      | true => rfl
      | false => rfl
/-- may a man stand there unseen -/
def wlS (bl : List B3) (hl cl : List H4) (su : Nat → Option Nat) (t y : Nat) : Int32 := (sunS cl su t y &&& (drkS bl cl su t y ^^^ (-1))) &&& wtS hl y 0
theorem mo_eq {bl : List B3} {hl cl : List H4} {su : Nat → Option Nat} {t x y : Nat} : alS hl y ((rC 6 x t &&& sunS cl su t y) &&& (drkS bl cl su t y ^^^ (-1))) = decide (rC 6 x t &&& wlS bl hl cl su t y = 0) := by
  have e : rC 6 x t &&& wlS bl hl cl su t y = ((rC 6 x t &&& sunS cl su t y) &&& (drkS bl cl su t y ^^^ (-1))) &&& wtS hl y 0 := by
    unfold wlS
    rw [Int32.and_assoc, Int32.and_assoc, Int32.and_assoc]
  rw [e]
  generalize (rC 6 x t &&& sunS cl su t y) &&& (drkS bl cl su t y ^^^ (-1)) = mo
  have h := wt_and (x := mo) (y := y) hl 0
  rw [iand_0] at h
  unfold alS
  by_cases c : mo &&& wtS hl y 0 = 0
  · rw [decide_eq_true c, List.all_eq_true]
    exact fun q hq => decide_eq_true ((h.mp c).2 q hq)
  · rw [decide_eq_false c]
    cases ha : hl.all (fun q => decide (mo &&& vwS q y = 0)) with
    | false => rfl
    | true =>
      rw [List.all_eq_true] at ha
      exact absurd (h.mpr ⟨rfl, fun q hq => of_decide_eq_true (ha q hq)⟩) c
theorem hidM {t x y : Nat} {bl : List B3} {hl cl : List H4} {su : Nat → Option Nat} {σ : ST} (hv : vB bl) (hb : RB3 bl (σ.1 11) (σ.2.1 7)) (hg : vG hl cl su) (hd : RG3 hl cl su (σ.1 12) (σ.1 13) (σ.1 14) (σ.2.1 8) (σ.2.1 9) (σ.2.1 10)) (ht : t < 16) (hx : x < 10) (hy : y < 6) : fX11_isHidden FU σ (nI t) (nI x) (nI y) = some (if rC 6 x t &&& wlS bl hl cl su t y = 0 then 1 else 0) := by
  have h1 := hid_loop (F := FU) (v1 := nI t) (v2 := nI x) (v4 := drkS bl cl su t y) (mo := (rC 6 x t &&& sunS cl su t y) &&& (drkS bl cl su t y ^^^ (-1))) hd.1.1 hg.1 hg.2.1 hd.1.2 hy hl.length FU 0 true (by omega) (by have := hg.1; unfold FU; omega)
  simp only [if_true, Bool.true_and, List.drop_zero] at h1
  rw [show nI 0 = (0 : Int32) from rfl, mo_eq] at h1
  unfold fX11_isHidden
  have hr := reachM (k := 0) (x := x) (t := t) (by omega) hx ht
  rw [show hgtI 0 = (6 : Int32) from rfl] at hr
  rw [darkM hv hb hg hd ht hy, bd_some, hr, bd_some, litM hg hd ht hy, bd_some, h1, bd_some]
  by_cases c : rC 6 x t &&& wlS bl hl cl su t y = 0
  · rw [decide_eq_true c, if_pos c]
    rfl
  · rw [decide_eq_false c, if_neg c]
    rfl
/-- the first place of a property -/
def fnd (p : Nat → Bool) : Nat → Nat → Option Nat
  | _, 0 => none
  | c, r + 1 => if p c then some c else fnd p (c + 1) r
theorem fnd_add (p : Nat → Bool) : ∀ (a c b : Nat), fnd p c (a + b) = match fnd p c a with
    | some k => some k
    | none => fnd p (c + a) b
  | 0, c, b => by rw [Nat.zero_add]; rfl
  | a + 1, c, b => by
    rw [show a + 1 + b = (a + b) + 1 by omega]
    show (if p c then some c else fnd p (c + 1) (a + b)) = match (if p c then some c else fnd p (c + 1) a) with
      | some k => some k
      | none => fnd p (c + (a + 1)) b
    by_cases h : p c
    · rw [if_pos h, if_pos h]
    · rw [if_neg h, if_neg h, fnd_add p a (c + 1) b, show c + 1 + a = c + (a + 1) by omega]
theorem fnd_bd (p : Nat → Bool) : ∀ (r c k : Nat), fnd p c r = some k → c ≤ k ∧ k < c + r
  | 0, _, _, h => by cases h
  | r + 1, c, k, h => by
    have h : (if p c then some c else fnd p (c + 1) r) = some k := h
    by_cases hp : p c
    · rw [if_pos hp] at h
      cases h
      omega
    · rw [if_neg hp] at h
      have := fnd_bd p r (c + 1) k h
      omega
def hdB (bl : List B3) (hl cl : List H4) (su : Nat → Option Nat) (t c : Nat) : Bool := decide (rC 6 (c % 10) t &&& wlS bl hl cl su t (c / 10) = 0) && !tkB bl (c % 10) (c / 10)
theorem hM_loop {t : Nat} {bl : List B3} {hl cl : List H4} {su : Nat → Option Nat} {σ : ST} (hv : vB bl) (hb : RB3 bl (σ.1 11) (σ.2.1 7)) (hg : vG hl cl su) (hd : RG3 hl cl su (σ.1 12) (σ.1 13) (σ.1 14) (σ.2.1 8) (σ.2.1 9) (σ.2.1 10)) (ht : t < 16) : ∀ (r n c : Nat), c + r = 60 → r < n → gX11_hide_12 FU σ (nI t) n (nI c) = some (match fnd (hdB bl hl cl su t) c r with
    | some k => (49, nI k)
    | none => (57, nI 60)) := by
  intro r
  induction r with
  | zero =>
    intro n c hc hn
    obtain ⟨m, rfl⟩ : ∃ m, n = m + 1 := ⟨n - 1, by omega⟩
    show gbX11_hide_12 FU σ (nI t) _ (nI c) = _
    unfold gbX11_hide_12
    rw [show c = 60 by omega, if_pos (by decide)]
    rfl
  | succ r ih =>
    intro n c hc hn
    obtain ⟨m, rfl⟩ : ∃ m, n = m + 1 := ⟨n - 1, by omega⟩
    show gbX11_hide_12 FU σ (nI t) (gX11_hide_12 FU σ (nI t) m) (nI c) = some (match (if hdB bl hl cl su t c then some c else fnd (hdB bl hl cl su t) (c + 1) r) with
      | some k => (49, nI k)
      | none => (57, nI 60))
    unfold gbX11_hide_12
    have e1 : nI c - nI c / 10 * 10 = nI (c % 10) := pk_rem (d := 10) (by omega) (by omega) (by omega)
    have e2 : nI c / 10 = nI (c / 10) := pk_div (d := 10) (by omega) (by omega) (by omega)
    rw [show (60 : Int32) = nI 60 from rfl, if_neg (nI_ge (by omega) (by omega)), e1, e2, ist hb hv (by omega) (by omega), bd_some, hidM hv hb hg hd ht (by omega) (by omega), bd_some, nI_1, ih m (c + 1) (by omega) (by omega)]
    unfold hdB
    cases hk : tkB bl (c % 10) (c / 10) with
    | true =>
      rw [show (if true = true then (1 : Int32) else 0) = 1 from rfl, if1]
      simp
    | false =>
      rw [show (if false = true then (1 : Int32) else 0) = 0 from rfl, if0]
      by_cases hh : rC 6 (c % 10) t &&& wlS bl hl cl su t (c / 10) = 0
      · rw [if_pos hh, if1, decide_eq_true hh]
        simp
      · rw [if_neg hh, if0, decide_eq_false hh]
        simp
theorem hC_in {t y : Nat} {bl : List B3} {hl cl : List H4} {su : Nat → Option Nat} {σ σd : ST} {v3 : Int32} (hv : vB bl) (hb : RB bl σ) (ht : t < 16) (hy : y < 6) : ∀ (r n x : Nat), x + r = 10 → r < n → gX2_hiddenCell_39 FU σ σd (nI t) (nI y) v3 (wlS bl hl cl su t y) n (nI x) = some (match fnd (hdB bl hl cl su t) (10 * y + x) r with
    | some k => (80, nI (k - 10 * y))
    | none => (94, nI 10)) := by
  intro r
  induction r with
  | zero =>
    intro n x hc hn
    obtain ⟨m, rfl⟩ : ∃ m, n = m + 1 := ⟨n - 1, by omega⟩
    show gbX2_hiddenCell_39 FU σ σd (nI t) (nI y) v3 _ _ (nI x) = _
    unfold gbX2_hiddenCell_39
    rw [show x = 10 by omega, if_pos (by decide)]
    rfl
  | succ r ih =>
    intro n x hc hn
    obtain ⟨m, rfl⟩ : ∃ m, n = m + 1 := ⟨n - 1, by omega⟩
    show gbX2_hiddenCell_39 FU σ σd (nI t) (nI y) v3 _ (gX2_hiddenCell_39 FU σ σd (nI t) (nI y) v3 (wlS bl hl cl su t y) m) (nI x) = some (match (if hdB bl hl cl su t (10 * y + x) then some (10 * y + x) else fnd (hdB bl hl cl su t) (10 * y + x + 1) r) with
      | some k => (80, nI (k - 10 * y))
      | none => (94, nI 10))
    unfold gbX2_hiddenCell_39
    have hr := reachC (F := FU) (k := 0) (x := x) (t := t) (by omega) (by omega) ht
    rw [show hgtI 0 = hgtI (0 : Int32).toNatClampNeg from rfl] at hr
    have h6 : rC (hgtI (0 : Int32).toNatClampNeg) x t = rC 6 x t := rfl
    rw [show (10 : Int32) = nI 10 from rfl, if_neg (nI_ge (by omega) (by omega)), hr, bd_some, h6, sta hb hv (by omega) hy, bd_some, nI_1, ih m (x + 1) (by omega) (by omega), show 10 * y + (x + 1) = 10 * y + x + 1 by omega]
    unfold hdB
    rw [show (10 * y + x) % 10 = x by omega, show (10 * y + x) / 10 = y by omega]
    by_cases hh : rC 6 x t &&& wlS bl hl cl su t y = 0
    · rw [if_pos hh, decide_eq_true hh]
      cases hk : tkB bl x y with
      | true =>
        rw [show (if true = true then (1 : Int32) else 0) = 1 from rfl, if1]
        simp
      | false =>
        rw [show (if false = true then (1 : Int32) else 0) = 0 from rfl, if0]
        simp
    · rw [if_neg hh, decide_eq_false hh]
      simp
theorem hC_out {t : Nat} {bl : List B3} {hl cl : List H4} {su : Nat → Option Nat} {σ σd : ST} (hv : vB bl) (hb : RB bl σ) (hg : vG hl cl su) (hd : RG hl cl su σd) (ht : t < 16) : ∀ (r n y : Nat), y + r = 6 → r < n → ∃ z : Nat × Int32 × Int32, gX2_hiddenCell_2 FU σ σd (nI t) n (nI y) = some z ∧ (match fnd (hdB bl hl cl su t) (10 * y) (10 * r) with
    | some k => z.1 = 80 ∧ 10 * z.2.1 + z.2.2 = nI k
    | none => z.1 = 100) := by
  intro r
  induction r with
  | zero =>
    intro n y hc hn
    obtain ⟨m, rfl⟩ : ∃ m, n = m + 1 := ⟨n - 1, by omega⟩
    refine ⟨(100, nI y, 0), ?_, rfl⟩
    show gbX2_hiddenCell_2 FU σ σd (nI t) _ (nI y) = _
    unfold gbX2_hiddenCell_2
    rw [show y = 6 by omega, if_pos (by decide)]
  | succ r ih =>
    intro n y hc hn
    obtain ⟨m, rfl⟩ : ∃ m, n = m + 1 := ⟨n - 1, by omega⟩
    have e : gX2_hiddenCell_2 FU σ σd (nI t) (m + 1) (nI y) = gbX2_hiddenCell_2 FU σ σd (nI t) (gX2_hiddenCell_2 FU σ σd (nI t) m) (nI y) := rfl
    have hw := wt_loop (F := FU) (σb := σ) hd.1.1 hg.1 hg.2.1 hd.1.2 (show y < 6 by omega) hl.length FU 0 0 (by omega) (by have := hg.1; unfold FU; omega)
    rw [List.drop_zero, show nI 0 = (0 : Int32) from rfl] at hw
    have hi := hC_in (hl := hl) (cl := cl) (su := su) (σd := σd) (v3 := sunS cl su t y &&& (drkS bl cl su t y ^^^ (-1))) hv hb ht (show y < 6 by omega) 10 FU 0 (by omega) (by unfold FU; omega)
    rw [show nI 0 = (0 : Int32) from rfl, Nat.add_zero] at hi
    have ew : (sunS cl su t y &&& (drkS bl cl su t y ^^^ (-1))) &&& wtS hl y 0 = wlS bl hl cl su t y := rfl
    obtain ⟨z, z1, z2⟩ := ih m (y + 1) (by omega) (by omega)
    rw [e]
    unfold gbX2_hiddenCell_2 fX2_watchedCells
    rw [show (6 : Int32) = nI 6 from rfl, if_neg (nI_ge (by omega) (by omega)), sunC hg hd ht (by omega), bd_some, darkC hv hb hg hd ht (by omega), bd_some, hw]
    simp only [bd_some]
    rw [ew, hi, bd_some, show 10 * (r + 1) = 10 + 10 * r by omega, fnd_add, nI_1, z1]
    cases hf : fnd (hdB bl hl cl su t) (10 * y) 10 with
    | some k =>
      have hk := fnd_bd _ _ _ _ hf
      refine ⟨(80, nI y, nI (k - 10 * y)), rfl, rfl, ?_⟩
      show (10 : Int32) * nI y + nI (k - 10 * y) = nI k
      rw [show (10 : Int32) = nI 10 from rfl, pk_mul, nI_add, show 10 * y + (k - 10 * y) = k by omega]
    | none =>
      exact ⟨z, rfl, z2⟩
theorem st_hide : St_hide Inv := by
  intro S x1 hI
  obtain ⟨-, ⟨bl, hv, hb, hm, -⟩, ⟨hl, cl, su, hg, hd, hd3⟩, -⟩ := hI
  unfold fX10_hide fX11_hide fX2_hiddenCell
  rcases rng x1 16 (by omega) with ⟨t, ht, rfl⟩ | hx
  · have h1 := hM_loop hv hm hg hd3 ht 60 FU 0 (by omega) (by unfold FU; omega)
    obtain ⟨z, h2, h3⟩ := hC_out hv hb hg hd ht 6 FU 0 (by omega) (by unfold FU; omega)
    rw [show nI 0 = (0 : Int32) from rfl] at h1 h2
    rw [(min_in ht).1, (min_in ht).2, bd_some, bd_some, if1, if1, h1, h2, bd_some, bd_some]
    rw [show 10 * 0 = 0 from rfl, show 10 * 6 = 60 from rfl] at h3
    cases hf : fnd (hdB bl hl cl su t) 0 60 with
    | some k =>
      rw [hf] at h3
      rw [if_pos h3.1]
      exact ⟨_, _, rfl, rfl, h3.2⟩
    | none =>
      rw [hf] at h3
      have h3 : z.1 = 100 := h3
      rw [if_neg (by omega)]
      exact ⟨_, _, rfl, rfl, rfl⟩
  · rw [(min_out hx).1, (min_out hx).2]
    exact ⟨_, _, rfl, rfl, rfl⟩
