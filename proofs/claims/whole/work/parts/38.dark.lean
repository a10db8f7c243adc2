/-! shadows, light, dark -/
def rC (h : Int32) (x t : Nat) : Int32 := (fX10_reach 0 h (nI x) (nI t)).getD 0
theorem rch_C : ∀ k : Fin 6, ∀ x : Fin 10, ∀ t : Fin 16, fX10_reach 0 (hgtI k.1) (nI x.1) (nI t.1) = some (rC (hgtI k.1) x.1 t.1) := by decide +kernel
theorem rch_M : ∀ k : Fin 6, ∀ x : Fin 10, ∀ t : Fin 16, fX11_reach FU (hgtI k.1) (nI x.1) (nI t.1) = some (rC (hgtI k.1) x.1 t.1) := by decide +kernel
theorem reachC {F k x t : Nat} (hk : k < 6) (hx : x < 10) (ht : t < 16) : fX10_reach F (hgtI k) (nI x) (nI t) = some (rC (hgtI k) x t) := rch_C ⟨k, hk⟩ ⟨x, hx⟩ ⟨t, ht⟩
theorem reachM {k x t : Nat} (hk : k < 6) (hx : x < 10) (ht : t < 16) : fX11_reach FU (hgtI k) (nI x) (nI t) = some (rC (hgtI k) x t) := rch_M ⟨k, hk⟩ ⟨x, hx⟩ ⟨t, ht⟩
def btI (a b : Nat) : Int32 := (1 <<< ((nI b + 1) &&& 31)) - (1 <<< (nI a &&& 31))
theorem cb_C : ∀ a : Fin 10, ∀ b : Fin 10, a.1 ≤ b.1 → fX10_columnBits 0 (nI a.1) (nI b.1) = some (btI a.1 b.1) := by decide +kernel
theorem colb {F a b : Nat} (h : a ≤ b) (hb : b < 10) : fX10_columnBits F (nI a) (nI b) = some (btI a b) := cb_C ⟨a, by omega⟩ ⟨b, hb⟩ h
theorem bitsM (F a b : Nat) : fX11_bits F (nI a) (nI b) = some (btI a b) := rfl
theorem ior0 (x : Int32) : x ||| 0 = x := by
  apply Int32.toBitVec_inj.1
  simp
theorem iand0 (x : Int32) : 0 &&& x = 0 := by
  apply Int32.toBitVec_inj.1
  simp
theorem iandm (x : Int32) : x &&& (-1) = x := by
  apply Int32.toBitVec_inj.1
  show x.toBitVec &&& BitVec.allOnes 32 = x.toBitVec
  exact BitVec.and_allOnes
theorem m41 (i : Nat) : (4 : Int32) * nI i + 1 = nI (4 * i + 1) := m4 i 1
theorem m42 (i : Nat) : (4 : Int32) * nI i + 2 = nI (4 * i + 2) := m4 i 2
theorem m43 (i : Nat) : (4 : Int32) * nI i + 3 = nI (4 * i + 3) := m4 i 3
theorem m31 (i : Nat) : (3 : Int32) * nI i + 1 = nI (3 * i + 1) := m3 i 1
theorem m32 (i : Nat) : (3 : Int32) * nI i + 2 = nI (3 * i + 2) := m3 i 2
/-- clouds -/
def lfS (l : List H4) (t : Nat) (v : Int32) : Int32 := l.foldl (fun v q => if q.2.2.1 ≤ t ∧ t ≤ q.2.2.2 then v &&& (btI q.1 q.2.1 ^^^ (-1)) else v) v
theorem lf_drop {l : List H4} {t i : Nat} {v : Int32} {q : H4} (hq : l[i]? = some q) : lfS (l.drop i) t v = lfS (l.drop (i + 1)) t (if q.2.2.1 ≤ t ∧ t ≤ q.2.2.2 then v &&& (btI q.1 q.2.1 ^^^ (-1)) else v) := by
  obtain ⟨h1, h2⟩ := List.getElem?_eq_some_iff.mp hq
  unfold lfS
  rw [List.drop_eq_getElem_cons h1, List.foldl_cons, h2]
theorem lf_0 (l : List H4) (t : Nat) : lfS l t 0 = 0 := by
  induction l with
  | nil => rfl
  | cons q l ih =>
    have e : lfS (q :: l) t 0 = lfS l t (if q.2.2.1 ≤ t ∧ t ≤ q.2.2.2 then 0 &&& (btI q.1 q.2.1 ^^^ (-1)) else 0) := rfl
    rw [e, iand0]
    simp only [ite_self]
    exact ih
theorem sc_step {F t i : Nat} {cl : List H4} {σ : ST} {v2 v : Int32} {rc : Int32 → Int32 → Option (Int32 × Int32)} {q : H4} (hn : σ.1 4 = nI cl.length) (hl : cl.length ≤ 4) (hq : cl[i]? = some q) (ho : okC q) (ha : at4 q (σ.2.1 (20 + i)) 0) (ht : t < 16) :
    gbX4_sunnyCells_27 F σ (nI t) v2 rc v (nI i) = rc (if q.2.2.1 ≤ t ∧ t ≤ q.2.2.2 then v &&& (btI q.1 q.2.1 ^^^ (-1)) else v) (nI (i + 1)) := by
  have hi := (List.getElem?_eq_some_iff.mp hq).1
  obtain ⟨o1, o2, o3, o4⟩ := ho
  have key : ∀ r : Nat, σ.2.1 r (2 : Int32).toNatClampNeg = nI q.2.2.1 → σ.2.1 r (3 : Int32).toNatClampNeg = nI q.2.2.2 → σ.2.1 r (0 : Int32).toNatClampNeg = nI q.1 → σ.2.1 r (1 : Int32).toNatClampNeg = nI q.2.1 →
      (if nI t < σ.2.1 r (2 : Int32).toNatClampNeg then rc v (nI i + 1) else if σ.2.1 r (3 : Int32).toNatClampNeg < nI t then rc v (nI i + 1) else (fX10_columnBits F (σ.2.1 r (0 : Int32).toNatClampNeg) (σ.2.1 r (1 : Int32).toNatClampNeg)).bind fun r8 => rc (v &&& (r8 ^^^ (-1 : Int32))) (nI i + 1)) = rc (if q.2.2.1 ≤ t ∧ t ≤ q.2.2.2 then v &&& (btI q.1 q.2.1 ^^^ (-1)) else v) (nI (i + 1)) := by
    intro r g2 g3 g0 g1
    rw [g2, g3, g0, g1, colb o1 o2, bd_some, nI_1]
    by_cases c1 : t < q.2.2.1
    · rw [if_pos (nI_lt c1 (by omega)), if_neg (by omega)]
    · rw [if_neg (nI_nlt (by omega) (by omega))]
      by_cases c2 : q.2.2.2 < t
      · rw [if_pos (nI_lt c2 (by omega)), if_neg (by omega)]
      · rw [if_neg (nI_nlt (by omega) (by omega)), if_pos (by omega)]
  unfold gbX4_sunnyCells_27
  rw [hn, if_neg (nI_ge hi (by omega))]
  rcases (show i = 0 ∨ i = 1 ∨ i = 2 ∨ i = 3 by omega) with rfl | rfl | rfl | rfl
  · rw [if_pos (show nI 0 = (0 : Int32) from rfl)]
    exact key 20 ha.2.2.1 ha.2.2.2 ha.1 ha.2.1
  · rw [if_neg (show ¬ nI 1 = (0 : Int32) by decide), if_pos (show nI 1 = (1 : Int32) from rfl)]
    exact key 21 ha.2.2.1 ha.2.2.2 ha.1 ha.2.1
  · rw [if_neg (show ¬ nI 2 = (0 : Int32) by decide), if_neg (show ¬ nI 2 = (1 : Int32) by decide), if_pos (show nI 2 = (2 : Int32) from rfl)]
    exact key 22 ha.2.2.1 ha.2.2.2 ha.1 ha.2.1
  · rw [if_neg (show ¬ nI 3 = (0 : Int32) by decide), if_neg (show ¬ nI 3 = (1 : Int32) by decide), if_neg (show ¬ nI 3 = (2 : Int32) by decide), if_pos (show nI 3 = (3 : Int32) from rfl)]
    exact key 23 ha.2.2.1 ha.2.2.2 ha.1 ha.2.1
theorem sc_loop {F t : Nat} {cl : List H4} {σ : ST} {v2 : Int32} (hn : σ.1 4 = nI cl.length) (hl : cl.length ≤ 4) (ho : ∀ q ∈ cl, okC q) (ha : ∀ (i : Nat) (q : H4), cl[i]? = some q → at4 q (σ.2.1 (20 + i)) 0) (ht : t < 16) : ∀ (r n i : Nat) (v : Int32), i + r = cl.length → r < n → gX4_sunnyCells_27 F σ (nI t) v2 n v (nI i) = some (lfS (cl.drop i) t v, nI cl.length) := by
  intro r
  induction r with
  | zero =>
    intro n i v hi hn2
    obtain ⟨m, rfl⟩ : ∃ m, n = m + 1 := ⟨n - 1, by omega⟩
    show gbX4_sunnyCells_27 F σ (nI t) v2 _ v (nI i) = _
    unfold gbX4_sunnyCells_27
    rw [hn, if_pos (nI_le (by omega) (by omega)), List.drop_eq_nil_of_le (by omega), show i = cl.length by omega]
    rfl
  | succ r ih =>
    intro n i v hi hn2
    obtain ⟨m, rfl⟩ : ∃ m, n = m + 1 := ⟨n - 1, by omega⟩
    obtain ⟨q, hq, hqm⟩ := at_get (show i < cl.length by omega)
    show gbX4_sunnyCells_27 F σ (nI t) v2 (gX4_sunnyCells_27 F σ (nI t) v2 m) v (nI i) = _
    rw [sc_step hn hl hq (ho q hqm) (ha i q hq) ht, ih m (i + 1) _ (by omega) (by omega), lf_drop hq]
theorem li_loop {F t : Nat} {cl : List H4} {σ : ST} {v2 : Int32} (hn : σ.1 13 = nI cl.length) (hl : cl.length ≤ 4) (ho : ∀ q ∈ cl, okC q) (ha : ∀ (i : Nat) (q : H4), cl[i]? = some q → at4 q (σ.2.1 9) (4 * i)) (ht : t < 16) : ∀ (r n i : Nat) (v : Int32), i + r = cl.length → r < n → gX11_lit_21 F σ (nI t) v2 n v (nI i) = some (lfS (cl.drop i) t v, nI cl.length) := by
  intro r
  induction r with
  | zero =>
    intro n i v hi hn2
    obtain ⟨m, rfl⟩ : ∃ m, n = m + 1 := ⟨n - 1, by omega⟩
    show gbX11_lit_21 F σ (nI t) v2 _ v (nI i) = _
    unfold gbX11_lit_21
    rw [hn, if_pos (nI_le (by omega) (by omega)), List.drop_eq_nil_of_le (by omega), show i = cl.length by omega]
    rfl
  | succ r ih =>
    intro n i v hi hn2
    obtain ⟨m, rfl⟩ : ∃ m, n = m + 1 := ⟨n - 1, by omega⟩
    obtain ⟨q, hq, hqm⟩ := at_get (show i < cl.length by omega)
    obtain ⟨g0, g1, g2, g3⟩ := ha i q hq
    obtain ⟨o1, o2, o3, o4⟩ := ho q hqm
    show gbX11_lit_21 F σ (nI t) v2 (gX11_lit_21 F σ (nI t) v2 m) v (nI i) = _
    unfold gbX11_lit_21
    rw [hn, if_neg (nI_ge (by omega) (by omega)), m41, m42, m43, m40, nI_1, if_neg (nI_in (show 4 * i + 2 < 16 by omega) (by omega)), if_neg (nI_in (show 4 * i + 3 < 16 by omega) (by omega)), if_neg (nI_in (show 4 * i < 16 by omega) (by omega)), if_neg (nI_in (show 4 * i + 1 < 16 by omega) (by omega)), nI_clamp (by omega), nI_clamp (by omega), nI_clamp (by omega), nI_clamp (by omega), g0, g1, g2, g3, bitsM, bd_some, iandm, lf_drop hq]
    by_cases c1 : t < q.2.2.1
    · rw [if_pos (nI_lt c1 (by omega)), if_neg (by omega), ih m (i + 1) _ (by omega) (by omega)]
    · rw [if_neg (nI_nlt (by omega) (by omega))]
      by_cases c2 : q.2.2.2 < t
      · rw [if_pos (nI_lt c2 (by omega)), if_neg (by omega), ih m (i + 1) _ (by omega) (by omega)]
      · rw [if_neg (nI_nlt (by omega) (by omega)), if_pos (by omega), ih m (i + 1) _ (by omega) (by omega)]
/-- cliffs -/
theorem msk_bit (su : Nat → Option Nat) {y : Nat} (hy : y < 6) : mskN su 6 / 2 ^ y % 2 = if (su y).isSome then 1 else 0 := by
  have e : ∀ n : Nat, (if (su n).isSome then 2 ^ n else 0) = 2 ^ n * (if (su n).isSome then 1 else 0) := fun n => by
    by_cases h : (su n).isSome
    · rw [if_pos h, if_pos h, Nat.mul_one]
    · rw [if_neg h, if_neg h, Nat.mul_zero]
  have hb : ∀ n : Nat, (if (su n).isSome then 1 else 0) ≤ 1 := fun n => by
    by_cases h : (su n).isSome
    · rw [if_pos h]; omega
    · rw [if_neg h]; omega
  simp only [mskN]
  rw [e 0, e 1, e 2, e 3, e 4, e 5]
  have h0 := hb 0
  have h1 := hb 1
  have h2 := hb 2
  have h3 := hb 3
  have h4 := hb 4
  have h5 := hb 5
  rcases (show y = 0 ∨ y = 1 ∨ y = 2 ∨ y = 3 ∨ y = 4 ∨ y = 5 by omega) with rfl | rfl | rfl | rfl | rfl | rfl <;> (generalize (if (su 0).isSome then 1 else 0) = b0 at *; generalize (if (su 1).isSome then 1 else 0) = b1 at *; generalize (if (su 2).isSome then 1 else 0) = b2 at *; generalize (if (su 3).isSome then 1 else 0) = b3 at *; generalize (if (su 4).isSome then 1 else 0) = b4 at *; generalize (if (su 5).isSome then 1 else 0) = b5 at *; omega)
theorem msk_lt (su : Nat → Option Nat) : mskN su 6 < 64 := by
  have hb : ∀ n : Nat, (if (su n).isSome then 2 ^ n else 0) ≤ 2 ^ n := fun n => by
    by_cases h : (su n).isSome
    · rw [if_pos h]; exact Nat.le_refl _
    · rw [if_neg h]; exact Nat.zero_le _
  simp only [mskN]
  have h0 := hb 0
  have h1 := hb 1
  have h2 := hb 2
  have h3 := hb 3
  have h4 := hb 4
  have h5 := hb 5
  omega
theorem sh_l : ∀ n : Fin 32, ((nI n.1 &&& 31).toBitVec.smod 32).toNat = n.1 := by decide +kernel
theorem hcl {F y : Nat} {σ : ST} {su : Nat → Option Nat} (h : σ.1 5 = nI (mskN su 6)) (hy : y < 6) : fX4_hasCliff F σ (nI y) = some (if (su y).isSome then 1 else 0) := by
  have hm := msk_lt su
  have hb := msk_bit su hy
  unfold fX4_hasCliff
  rw [h, pk_shrN (by omega) _ y (sh_l ⟨y, by omega⟩), show (1 : Int32) = nI (2 ^ 1 - 1) from rfl, fa_mask, show (2 : Nat) ^ 1 = 2 from rfl, hb]
  by_cases hs : (su y).isSome
  · rw [if_pos hs, if_pos hs, if_neg (by decide)]
  · rw [if_neg hs, if_neg hs, if_pos (by rfl)]
def sunS (cl : List H4) (su : Nat → Option Nat) (t y : Nat) : Int32 := if t < (su y).getD 0 then 0 else lfS cl t 1023
theorem sunC {t y : Nat} {hl cl : List H4} {su : Nat → Option Nat} {σ : ST} (hv : vG hl cl su) (h : RG hl cl su σ) (ht : t < 16) (hy : y < 6) : fX4_sunnyCells FU σ (nI t) (nI y) = some (sunS cl su t y) := by
  obtain ⟨-, -, c4, oc, osu⟩ := hv
  obtain ⟨-, ⟨n4, a4⟩, n5, a5⟩ := h
  have h1 := sc_loop (F := FU) (v2 := nI y) n4 c4 oc a4 ht cl.length FU 0 1023 (by omega) (by unfold FU; omega)
  rw [List.drop_zero, show nI 0 = (0 : Int32) from rfl] at h1
  unfold fX4_sunnyCells sunS
  rw [hcl n5 hy, bd_some, h1]
  cases hs : su y with
  | none => rfl
  | some m =>
    have hm := osu y m hs
    simp only [Option.isSome_some, if_true, Option.getD_some]
    rw [if1, if_neg (nI_in hy (by omega)), nI_clamp (by omega), a5 y m hy hs]
    by_cases c1 : t < m
    · rw [if_neg (nI_ge c1 (by omega)), if_pos c1]
    · rw [if_pos (nI_le (by omega) (by omega)), if_neg c1]
      rfl
theorem litM {t y : Nat} {hl cl : List H4} {su : Nat → Option Nat} {σ : ST} {nh cf : Int32} {fh : Nat → Int32} (hv : vG hl cl su) (h : RG3 hl cl su nh (σ.1 13) cf fh (σ.2.1 9) (σ.2.1 10)) (ht : t < 16) (hy : y < 6) : fX11_lit FU σ (nI t) (nI y) = some (sunS cl su t y) := by
  obtain ⟨-, -, c4, oc, osu⟩ := hv
  obtain ⟨-, ⟨n4, a4⟩, n5, a5⟩ := h
  have h1 := li_loop (F := FU) (v2 := nI y) n4 c4 oc a4 ht cl.length FU 0 1023 (by omega) (by unfold FU; omega)
  have h0 := li_loop (F := FU) (v2 := nI y) n4 c4 oc a4 ht cl.length FU 0 0 (by omega) (by unfold FU; omega)
  rw [List.drop_zero, show nI 0 = (0 : Int32) from rfl] at h1 h0
  unfold fX11_lit sunS
  rw [if_neg (nI_in hy (by omega)), nI_clamp (by omega), a5 y hy, h1, h0, lf_0]
  have hm : (su y).getD 0 < 16 := by
    cases hs : su y with
    | none => simp
    | some m => exact osu y m hs
  by_cases c1 : t < (su y).getD 0
  · rw [if_pos (nI_lt c1 (by omega)), if_pos c1]
    rfl
  · rw [if_neg (nI_nlt (by omega) (by omega)), if_neg c1]
    rfl
/-- what bodies reach in a row -/
def dkS (l : List B3) (t y : Nat) (v : Int32) : Int32 := l.foldl (fun v q => if q.2.2 = y then v ||| rC (hgtI q.1) q.2.1 t else v) v
theorem dk_drop {l : List B3} {t y i : Nat} {v : Int32} {q : B3} (hq : l[i]? = some q) : dkS (l.drop i) t y v = dkS (l.drop (i + 1)) t y (if q.2.2 = y then v ||| rC (hgtI q.1) q.2.1 t else v) := by
  obtain ⟨h1, h2⟩ := List.getElem?_eq_some_iff.mp hq
  unfold dkS
  rw [List.drop_eq_getElem_cons h1, List.foldl_cons, h2]
theorem dc_loop {F t y : Nat} {bl : List B3} {σ σd : ST} (hv : vB bl) (hb : RB bl σ) (ht : t < 16) (hy : y < 6) : ∀ (r n i : Nat) (v : Int32), i + r = bl.length → r < n → gX2_darkCells_5 F σ σd (nI t) (nI y) n v (nI i) = some (dkS (bl.drop i) t y v, nI bl.length) := by
  have h8 := hv.1
  intro r
  induction r with
  | zero =>
    intro n i v hi hn2
    obtain ⟨m, rfl⟩ : ∃ m, n = m + 1 := ⟨n - 1, by omega⟩
    show gbX2_darkCells_5 F σ σd (nI t) (nI y) _ v (nI i) = _
    unfold gbX2_darkCells_5
    rw [hb.1, if_pos (nI_le (by omega) (by omega)), List.drop_eq_nil_of_le (by omega), show i = bl.length by omega]
    rfl
  | succ r ih =>
    intro n i v hi hn2
    obtain ⟨m, rfl⟩ : ∃ m, n = m + 1 := ⟨n - 1, by omega⟩
    obtain ⟨q, hq, hqm⟩ := at_get (show i < bl.length by omega)
    obtain ⟨b0, b1, b2⟩ := hb.2 i q hq
    obtain ⟨o0, o1, o2⟩ := hv.2 q hqm
    show gbX2_darkCells_5 F σ σd (nI t) (nI y) (gX2_darkCells_5 F σ σd (nI t) (nI y) m) v (nI i) = _
    unfold gbX2_darkCells_5
    rw [hb.1, if_neg (nI_ge (by omega) (by omega)), if_neg (nI_in (show i < 8 by omega) (by omega)), height_eq hb hv hq, bd_some, nI_clamp (by omega), b1, b2, reachC o0 o1 ht, bd_some, nI_1, dk_drop hq]
    by_cases c1 : q.2.2 = y
    · rw [if_pos (by rw [c1]), if_pos c1, ih m (i + 1) _ (by omega) (by omega)]
    · rw [if_neg (fun e => c1 ((nI_eq (by omega) (by omega)).mp e)), if_neg c1, ih m (i + 1) _ (by omega) (by omega)]
theorem do_loop {t y : Nat} {bl : List B3} {σ : ST} (hv : vB bl) (hb : RB3 bl (σ.1 11) (σ.2.1 7)) (ht : t < 16) (hy : y < 6) : ∀ (r n i : Nat) (v : Int32), i + r = bl.length → r < n → gX11_darkOf_5 FU σ (nI t) (nI y) n v (nI i) = some (dkS (bl.drop i) t y v, nI bl.length) := by
  have h8 := hv.1
  intro r
  induction r with
  | zero =>
    intro n i v hi hn2
    obtain ⟨m, rfl⟩ : ∃ m, n = m + 1 := ⟨n - 1, by omega⟩
    show gbX11_darkOf_5 FU σ (nI t) (nI y) _ v (nI i) = _
    unfold gbX11_darkOf_5
    rw [hb.1, if_pos (nI_le (by omega) (by omega)), List.drop_eq_nil_of_le (by omega), show i = bl.length by omega]
    rfl
  | succ r ih =>
    intro n i v hi hn2
    obtain ⟨m, rfl⟩ : ∃ m, n = m + 1 := ⟨n - 1, by omega⟩
    obtain ⟨q, hq, hqm⟩ := at_get (show i < bl.length by omega)
    obtain ⟨b0, b1, b2⟩ := hb.2 i q hq
    obtain ⟨o0, o1, o2⟩ := hv.2 q hqm
    show gbX11_darkOf_5 FU σ (nI t) (nI y) (gX11_darkOf_5 FU σ (nI t) (nI y) m) v (nI i) = _
    unfold gbX11_darkOf_5
    rw [hb.1, if_neg (nI_ge (by omega) (by omega)), m31, m32, m30, nI_1, if_neg (nI_in (show 3 * i + 2 < 24 by omega) (by omega)), if_neg (nI_in (show 3 * i < 24 by omega) (by omega)), nI_clamp (show 3 * i + 2 < 2 ^ 31 by omega), nI_clamp (show 3 * i < 2 ^ 31 by omega), b0, b2, hgt_eq o0, bd_some, if_neg (nI_in (show 3 * i + 1 < 24 by omega) (by omega)), nI_clamp (show 3 * i + 1 < 2 ^ 31 by omega), b1, reachM o0 o1 ht, bd_some, dk_drop hq, ior0]
    by_cases c1 : q.2.2 = y
    · rw [if_pos (by rw [c1]), if_pos c1, ih m (i + 1) _ (by omega) (by omega)]
    · rw [if_neg (fun e => c1 ((nI_eq (by omega) (by omega)).mp e)), if_neg c1, ih m (i + 1) _ (by omega) (by omega)]
def drkS (bl : List B3) (cl : List H4) (su : Nat → Option Nat) (t y : Nat) : Int32 := dkS bl t y 0 &&& sunS cl su t y
theorem darkC {t y : Nat} {bl : List B3} {hl cl : List H4} {su : Nat → Option Nat} {σ σd : ST} (hv : vB bl) (hb : RB bl σ) (hg : vG hl cl su) (hd : RG hl cl su σd) (ht : t < 16) (hy : y < 6) : fX2_darkCells FU σ σd (nI t) (nI y) = some (drkS bl cl su t y) := by
  have h8 := hv.1
  have h1 := dc_loop (F := FU) (σd := σd) hv hb ht hy bl.length FU 0 0 (by omega) (by unfold FU; omega)
  rw [List.drop_zero, show nI 0 = (0 : Int32) from rfl] at h1
  unfold fX2_darkCells
  rw [h1, bd_some, sunC hg hd ht hy]
  rfl
theorem darkM {t y : Nat} {bl : List B3} {hl cl : List H4} {su : Nat → Option Nat} {σ : ST} {nh cf : Int32} {fh : Nat → Int32} (hv : vB bl) (hb : RB3 bl (σ.1 11) (σ.2.1 7)) (hg : vG hl cl su) (hd : RG3 hl cl su nh (σ.1 13) cf fh (σ.2.1 9) (σ.2.1 10)) (ht : t < 16) (hy : y < 6) : fX11_darkOf FU σ (nI t) (nI y) = some (drkS bl cl su t y) := by
  have h8 := hv.1
  have h1 := do_loop hv hb ht hy bl.length FU 0 0 (by omega) (by unfold FU; omega)
  rw [List.drop_zero, show nI 0 = (0 : Int32) from rfl] at h1
  unfold fX11_darkOf
  rw [h1, bd_some, litM hg hd ht hy]
  rfl
theorem st_dark : St_dark Inv := by
  intro S x1 x2 hI
  obtain ⟨-, ⟨bl, hv, hb, hm, -⟩, ⟨hl, cl, su, hg, hd, hd3⟩, -⟩ := hI
  unfold fX10_dark fX11_dark
  rcases rng x1 16 (by omega) with ⟨t, ht, rfl⟩ | hx
  · rw [(min_in ht).1, (min_in ht).2, bd_some, bd_some, if1, if1, show (6 : Int32) = nI 6 from rfl, show (5 : Int64) = (nI 5).toInt64 from rfl]
    rcases rng x2 6 (by omega) with ⟨y, hy, rfl⟩ | hx
    · rw [bel_in hy (by omega), in_in (by omega) (by omega), bd_some, bd_some, if1, if1, darkC hv hb hg hd ht hy, darkM hv hm hg hd3 ht hy]
      exact ⟨_, _, rfl, rfl, rfl⟩
    · rw [bel_out hx, in_out (by omega) hx]
      exact ⟨_, _, rfl, rfl, rfl⟩
  · rw [(min_out hx).1, (min_out hx).2]
    exact ⟨_, _, rfl, rfl, rfl⟩
