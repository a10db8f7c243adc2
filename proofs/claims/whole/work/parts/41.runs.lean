/-! runs of dark -/
theorem shb {c i : Nat} (hc : c < 2 ^ 31) (hi : i < 31) : (nI c >>> (nI i &&& 31)) &&& 1 = if c.testBit i then (1 : Int32) else 0 := by
  rw [pk_shrN hc _ i (sh_l ⟨i, by omega⟩), show (1 : Int32) = nI (2 ^ 1 - 1) from rfl, fa_mask, show (2 : Nat) ^ 1 = 2 from rfl, Nat.testBit_eq_decide_div_mod_eq]
  by_cases h : c / 2 ^ i % 2 = 1
  · rw [if_pos (by rw [decide_eq_true h]), h]
  · rw [if_neg (by rw [decide_eq_false h]; decide), show c / 2 ^ i % 2 = 0 by omega]
    rfl
/-- as the class finds them: each at its end -/
def cR (c : Nat) : Nat → Nat → Nat → List (Nat × Nat)
  | 0, _, _ => []
  | r + 1, l, i => if c.testBit i then cR c r (l + 1) (i + 1) else if l = 0 then cR c r l (i + 1) else (i - l, l) :: cR c r 0 (i + 1)
/-- as the reference lays them: each at its beginning, then longer -/
def inc1 : List (Nat × Nat) → List (Nat × Nat)
  | [] => []
  | p :: a => (p.1, p.2 + 1) :: a
def mR (c : Nat) : Nat → Nat → List (Nat × Nat) → List (Nat × Nat)
  | 0, _, acc => acc
  | r + 1, i, acc => if c.testBit i then (if 0 < i ∧ c.testBit (i - 1) then mR c r (i + 1) (inc1 acc) else mR c r (i + 1) ((i, 1) :: acc)) else mR c r (i + 1) acc
theorem runs_same : ∀ c : Fin 1024, (mR c.1 10 0 []).reverse = cR c.1 11 0 0 := by decide +kernel
theorem runs_five : ∀ c : Fin 1024, (cR c.1 11 0 0).length ≤ 5 := by decide +kernel
theorem runs_ten : ∀ c : Fin 1024, ∀ p ∈ cR c.1 11 0 0, p.2 ≤ 10 := by decide +kernel
def gy (y : Nat) (p : Nat × Nat) : B3 := (y, p.1, p.2)
theorem addR {F y x k : Nat} {l : List B3} {σ : ST} (h : RB l σ) (hl : l.length < 30) : ∃ σ', fX6_add F σ (nI y) (nI x) (nI k) = some σ' ∧ RB (l ++ [(y, x, k)]) σ' := by
  unfold fX6_add
  rw [RB_iff] at h
  rw [h.1, show (30 : Int32) = nI 30 from rfl, if_neg (nI_ge hl (by omega)), if_neg (nI_in hl (by omega)), nI_clamp (by omega), nm_go, st_A1, h.1, if_neg (nI_in hl (by omega)), nI_clamp (by omega), nm_go, st_A1, st_A1, h.1, if_neg (nI_in hl (by omega)), nI_clamp (by omega), nm_go, nm_go, st_A1, st_A1, st_A1, h.1]
  refine ⟨_, rfl, RB_iff.mpr ⟨?_, fun i q hq => ?_⟩⟩
  · show nI l.length + 1 = _
    rw [nI_1, List.length_append]
    rfl
  · have e : rd (sI (sA (sA (sA σ 0 l.length (nI y)) 1 l.length (nI x)) 2 l.length (nI k)) 3 (nI l.length + 1)) i = rd (wr σ l.length (nI y, nI x, nI k)) i := rfl
    rw [e, rd_wr]
    by_cases hi : i < l.length
    · rw [List.getElem?_append_left hi] at hq
      rw [if_neg (by omega)]
      exact h.2 i q hq
    · rw [List.getElem?_append_right (by omega)] at hq
      have h0 : i - l.length < 1 := (List.getElem?_eq_some_iff.mp hq).1
      have e : i = l.length := by omega
      subst e
      rw [Nat.sub_self] at hq
      cases hq
      rw [if_pos rfl]
      rfl
theorem ar_loop {F y c : Nat} (hc : c < 1024) : ∀ (r n v i : Nat) (l : List B3) (σ : ST), i + r = 11 → r < n → v ≤ i → RB l σ → l.length + (cR c r v i).length ≤ 30 → ∃ z : Int32 × Int32 × ST, gX6_addRunsOf_5 F (nI y) (nI c) n (nI v) (nI i) σ = some z ∧ RB (l ++ (cR c r v i).map (gy y)) z.2.2 := by
  intro r
  induction r with
  | zero =>
    intro n v i l σ hi hn hvi h hl
    obtain ⟨m, rfl⟩ : ∃ m, n = m + 1 := ⟨n - 1, by omega⟩
    refine ⟨(nI v, nI i, σ), ?_, by simpa [cR] using h⟩
    show gbX6_addRunsOf_5 F (nI y) (nI c) _ (nI v) (nI i) σ = _
    unfold gbX6_addRunsOf_5
    rw [show i = 11 by omega, if_pos (by decide)]
  | succ r ih =>
    intro n v i l σ hi hn hvi h hl
    obtain ⟨m, rfl⟩ : ∃ m, n = m + 1 := ⟨n - 1, by omega⟩
    have e : gX6_addRunsOf_5 F (nI y) (nI c) (m + 1) (nI v) (nI i) σ = gbX6_addRunsOf_5 F (nI y) (nI c) (gX6_addRunsOf_5 F (nI y) (nI c) m) (nI v) (nI i) σ := rfl
    rw [e]
    unfold gbX6_addRunsOf_5
    rw [show (10 : Int32) = nI 10 from rfl, if_neg (nI_nlt (by omega) (by omega)), shb (by omega) (by omega), nI_1, nI_1]
    rw [cR] at hl ⊢
    by_cases hb : c.testBit i
    · rw [if_pos hb] at hl
      rw [if_pos hb, if_pos hb, if1]
      exact ih m (v + 1) (i + 1) l σ (by omega) (by omega) (by omega) h hl
    · rw [if_neg hb] at hl
      rw [if_neg hb, if_neg hb, if0]
      by_cases hv : v = 0
      · rw [if_pos hv] at hl
        rw [if_pos hv, if_pos (show nI v ≤ 0 by rw [hv]; decide)]
        exact ih m v (i + 1) l σ (by omega) (by omega) (by omega) h hl
      · rw [if_neg hv] at hl
        rw [List.length_cons] at hl
        obtain ⟨σ', h1, h2⟩ := addR (F := F) (y := y) (x := i - v) (k := v) h (by omega)
        rw [if_neg hv, if_neg (nI_nle (by omega) (by omega)), pk_sub hvi, h1, bd_some, show (0 : Int32) = nI 0 from rfl]
        obtain ⟨z, g1, g2⟩ := ih m 0 (i + 1) _ σ' (by omega) (by omega) (by omega) h2 (by rw [List.length_append]; simp only [List.length_cons, List.length_nil]; omega)
        refine ⟨z, g1, ?_⟩
        rw [List.map_cons, List.append_cons]
        exact g2
/-- the cells that a hill sees dark -/
def ce (bl : List B3) (q : H4) (cl : List H4) (su : Nat → Option Nat) (t y : Nat) : Int32 := vwS q y &&& drkS bl cl su t y
def ceN (bl : List B3) (q : H4) (cl : List H4) (su : Nat → Option Nat) (t y : Nat) : Nat := (ce bl q cl su t y).toNatClampNeg
theorem and_low {a : Nat} (ha : a < 1024) (x : Int32) : nI a &&& x = nI (nI a &&& x).toNatClampNeg ∧ (nI a &&& x).toNatClampNeg < 1024 := by
  have hx : x = nI x.toBitVec.toNat := by
    apply Int32.toBitVec_inj.1
    show x.toBitVec = BitVec.ofNat 32 x.toBitVec.toNat
    rw [BitVec.ofNat_toNat, BitVec.setWidth_eq]
  have h1 : a &&& x.toBitVec.toNat ≤ a := Nat.and_le_left
  have e : nI a &&& x = nI (a &&& x.toBitVec.toNat) := by
    rw [← fa_and, ← hx]
  rw [e, nI_clamp (by omega)]
  exact ⟨rfl, by omega⟩
theorem bt_low : ∀ a : Fin 10, ∀ b : Fin 10, a.1 ≤ b.1 → btI a.1 b.1 = nI (btI a.1 b.1).toNatClampNeg ∧ (btI a.1 b.1).toNatClampNeg < 1024 := by decide +kernel
theorem ce_n {bl : List B3} {q : H4} {cl : List H4} {su : Nat → Option Nat} {t y : Nat} (ho : okH q) : ce bl q cl su t y = nI (ceN bl q cl su t y) ∧ ceN bl q cl su t y < 1024 := by
  have hv : ∃ a, a < 1024 ∧ vwS q y = nI a := by
    unfold vwS
    by_cases h : q.2.2.1 ≤ y ∧ y ≤ q.2.2.2
    · have := bt_low ⟨q.1, by have := ho.1; have := ho.2.1; omega⟩ ⟨q.2.1, ho.2.1⟩ ho.1
      rw [if_pos h]
      exact ⟨_, this.2, this.1⟩
    · rw [if_neg h]
      exact ⟨0, by omega, rfl⟩
  obtain ⟨a, ha, hv⟩ := hv
  unfold ceN ce
  rw [hv]
  exact and_low ha _
def rowR (bl : List B3) (q : H4) (cl : List H4) (su : Nat → Option Nat) (t y : Nat) : List B3 := (cR (ceN bl q cl su t y) 11 0 0).map (gy y)
def rl (g : Nat → List B3) : Nat → Nat → List B3
  | _, 0 => []
  | y, r + 1 => g y ++ rl g (y + 1) r
theorem rl_add (g : Nat → List B3) : ∀ (a y b : Nat), rl g y (a + b) = rl g y a ++ rl g (y + a) b
  | 0, y, b => by rw [Nat.zero_add]; rfl
  | a + 1, y, b => by
    rw [show a + 1 + b = (a + b) + 1 by omega, rl, rl, rl_add g a (y + 1) b, List.append_assoc, show y + 1 + a = y + (a + 1) by omega]
theorem rl_nil (g : Nat → List B3) : ∀ (r y : Nat), (∀ k, y ≤ k → k < y + r → g k = []) → rl g y r = []
  | 0, _, _ => rfl
  | r + 1, y, h => by rw [rl, h y (by omega) (by omega), rl_nil g r (y + 1) (fun k h1 h2 => h k (by omega) (by omega))]; rfl
theorem rl_len (g : Nat → List B3) : ∀ (r y : Nat), (∀ k, (g k).length ≤ 5) → (rl g y r).length ≤ 5 * r
  | 0, _, _ => by simp [rl]
  | r + 1, y, h => by
    rw [rl, List.length_append]
    have := rl_len g r (y + 1) h
    have := h y
    omega
theorem row_len {bl : List B3} {q : H4} {cl : List H4} {su : Nat → Option Nat} {t : Nat} (ho : okH q) (k : Nat) : (rowR bl q cl su t k).length ≤ 5 := by
  unfold rowR
  rw [List.length_map]
  exact runs_five ⟨_, (ce_n ho).2⟩
theorem row_out {bl : List B3} {q : H4} {cl : List H4} {su : Nat → Option Nat} {t k : Nat} (h : ¬ (q.2.2.1 ≤ k ∧ k ≤ q.2.2.2)) : rowR bl q cl su t k = [] := by
  unfold rowR ceN ce vwS
  rw [if_neg h, iand0]
  rfl
def rnL (bl : List B3) (q : H4) (cl : List H4) (su : Nat → Option Nat) (t : Nat) : List B3 := rl (rowR bl q cl su t) 0 6
theorem rn_part {bl : List B3} {q : H4} {cl : List H4} {su : Nat → Option Nat} {t : Nat} (ho : okH q) : rnL bl q cl su t = rl (rowR bl q cl su t) q.2.2.1 (q.2.2.2 + 1 - q.2.2.1) := by
  obtain ⟨-, -, o3, o4⟩ := ho
  unfold rnL
  have h1 := rl_add (rowR bl q cl su t) q.2.2.1 0 (6 - q.2.2.1)
  have h2 := rl_add (rowR bl q cl su t) (q.2.2.2 + 1 - q.2.2.1) q.2.2.1 (5 - q.2.2.2)
  rw [show q.2.2.1 + (6 - q.2.2.1) = 6 by omega, Nat.zero_add, rl_nil _ q.2.2.1 0 (fun k a b => row_out (by omega)), List.nil_append] at h1
  rw [show q.2.2.2 + 1 - q.2.2.1 + (5 - q.2.2.2) = 6 - q.2.2.1 by omega, rl_nil _ (5 - q.2.2.2) _ (fun k a b => row_out (by omega)), List.append_nil] at h2
  rw [h1, h2]
theorem rn_len {bl : List B3} {q : H4} {cl : List H4} {su : Nat → Option Nat} {t : Nat} (ho : okH q) : (rnL bl q cl su t).length ≤ 30 := rl_len _ 6 0 (row_len ho)
theorem look_loop {t j : Nat} {bl : List B3} {hl cl : List H4} {su : Nat → Option Nat} {σb σd : ST} {q : H4} (hv : vB bl) (hb : RB bl σb) (hg : vG hl cl su) (hd : RG hl cl su σd) (ht : t < 16) (hq : hl[j]? = some q) (ho : okH q) : ∀ (r n y : Nat) (l : List B3) (σ : ST), y + r = 6 → r < n → RB l σ → l.length + (rl (rowR bl q cl su t) y r).length ≤ 30 → ∃ z : Int32 × ST, gX6_look_8 FU σb σd (nI j) (nI t) n (nI y) σ = some z ∧ RB (l ++ rl (rowR bl q cl su t) y r) z.2 := by
  intro r
  induction r with
  | zero =>
    intro n y l σ hi hn h hl
    obtain ⟨m, rfl⟩ : ∃ m, n = m + 1 := ⟨n - 1, by omega⟩
    refine ⟨(nI y, σ), ?_, by simpa [rl] using h⟩
    show gbX6_look_8 FU σb σd (nI j) (nI t) _ (nI y) σ = _
    unfold gbX6_look_8
    rw [show y = 6 by omega, if_pos (by decide)]
  | succ r ih =>
    intro n y l σ hi hn h hl
    obtain ⟨m, rfl⟩ : ∃ m, n = m + 1 := ⟨n - 1, by omega⟩
    have e : gX6_look_8 FU σb σd (nI j) (nI t) (m + 1) (nI y) σ = gbX6_look_8 FU σb σd (nI j) (nI t) (gX6_look_8 FU σb σd (nI j) (nI t) m) (nI y) σ := rfl
    rw [e]
    rw [rl, List.length_append] at hl
    have hr := List.length_map (as := cR (ceN bl q cl su t y) 11 0 0) (gy y)
    obtain ⟨z1, g1, g2⟩ := ar_loop (F := FU) (y := y) (ce_n (bl := bl) (cl := cl) (su := su) (t := t) (y := y) ho).2 11 FU 0 0 l σ (by omega) (by unfold FU; omega) (by omega) h (by unfold rowR at hl; omega)
    have g2 : RB (l ++ rowR bl q cl su t y) z1.2.2 := g2
    rw [show nI 0 = (0 : Int32) from rfl] at g1
    obtain ⟨z, f1, f2⟩ := ih m (y + 1) _ z1.2.2 (by omega) (by omega) g2 (by rw [List.length_append]; omega)
    have ec : vwS q y &&& drkS bl cl su t y = nI (ceN bl q cl su t y) := (ce_n ho).1
    unfold gbX6_look_8 fX6_addRunsOf
    rw [show (6 : Int32) = nI 6 from rfl, if_neg (nI_ge (by omega) (by omega)), vwC hg.1 hq ho (hd.1.2 j q hq) (by omega), bd_some, darkC hv hb hg hd ht (by omega), bd_some, ec, g1, bd_some, bd_some, nI_1]
    exact ⟨z, f1, by rw [rl, ← List.append_assoc]; exact f2⟩
theorem look {t j : Nat} {bl : List B3} {hl cl : List H4} {su : Nat → Option Nat} {σb σd : ST} {q : H4} (σr : ST) (hv : vB bl) (hb : RB bl σb) (hg : vG hl cl su) (hd : RG hl cl su σd) (ht : t < 16) (hq : hl[j]? = some q) : ∃ σ', fX6_look FU σr σb σd (nI j) (nI t) = some σ' ∧ RB (rnL bl q cl su t) σ' := by
  have ho := hg.2.1 q (List.mem_of_getElem? hq)
  obtain ⟨z, h1, h2⟩ := look_loop hv hb hg hd ht hq ho 6 FU 0 [] (sI σr 3 0) (by omega) (by unfold FU; omega) ⟨rfl, fun i q h => by simp at h⟩ (by have := rn_len (bl := bl) (cl := cl) (su := su) (t := t) ho; unfold rnL at this; simpa using this)
  unfold fX6_look
  rw [nm_go]
  rw [show nI 0 = (0 : Int32) from rfl] at h1
  rw [h1, bd_some]
  rw [List.nil_append] at h2
  unfold rnL
  exact ⟨_, rfl, h2⟩
/-- in the reference -/
theorem RB3_inc {l : List B3} {y x k : Nat} {n : Int32} {f : Nat → Int32} (h : RB3 (l ++ [(y, x, k)]) n f) : RB3 (l ++ [(y, x, k + 1)]) n (upd f (3 * l.length + 2) (f (3 * l.length + 2) + 1)) := by
  refine ⟨by rw [h.1, List.length_append, List.length_append]; rfl, fun i p hp => ?_⟩
  unfold upd
  by_cases hi : i < l.length
  · rw [List.getElem?_append_left hi] at hp
    obtain ⟨a, b, c⟩ := h.2 i p (by rw [List.getElem?_append_left hi]; exact hp)
    rw [if_neg (by omega), if_neg (by omega), if_neg (by omega)]
    exact ⟨a, b, c⟩
  · rw [List.getElem?_append_right (by omega)] at hp
    have h0 : i - l.length < 1 := (List.getElem?_eq_some_iff.mp hp).1
    have e : i = l.length := by omega
    subst e
    rw [Nat.sub_self] at hp
    cases hp
    obtain ⟨a, b, c⟩ := h.2 l.length (y, x, k) (by rw [List.getElem?_append_right (Nat.le_refl _), Nat.sub_self]; rfl)
    rw [if_neg (by omega), if_neg (by omega), if_pos rfl, c]
    exact ⟨a, b, nI_1 k⟩
theorem mR_len (c : Nat) : ∀ (r i : Nat) (acc : List (Nat × Nat)), (0 < i → c.testBit (i - 1) → acc ≠ []) → acc.length ≤ (mR c r i acc).length
  | 0, _, _, _ => Nat.le_refl _
  | r + 1, i, acc, h => by
    rw [mR]
    by_cases hb : c.testBit i
    · rw [if_pos hb]
      by_cases hp : 0 < i ∧ c.testBit (i - 1)
      · rw [if_pos hp]
        cases acc with
        | nil => exact absurd rfl (h hp.1 hp.2)
        | cons p a => exact mR_len c r (i + 1) ((p.1, p.2 + 1) :: a) (fun _ _ => by simp)
      · rw [if_neg hp]
        have := mR_len c r (i + 1) ((i, 1) :: acc) (fun _ _ => by simp)
        rw [List.length_cons] at this
        omega
    · rw [if_neg hb]
      exact mR_len c r (i + 1) acc (fun _ h2 => absurd h2 (by rw [Nat.add_sub_cancel]; exact hb))
theorem up2 (f : Nat → Int32) (a : Nat) (x : Int32) : upd (upd f a 0) a (upd f a 0 a + 1) = upd f a 1 := by
  funext k
  unfold upd
  by_cases h : k = a
  · rw [if_pos h, if_pos h, if_pos rfl]
    rfl
  · rw [if_neg h, if_neg h, if_neg h]
theorem lr_new {F y i N : Nat} {v1 v2 v4 v6 : Int32} {σ : ST} {f : Nat → Int32} {rc : Int32 → Int32 → ST → Option (Int32 × Int32 × ST)} (hN : N < 30) : (if ((3 : Int32) * nI N) < 0 ∨ 90 ≤ ((3 : Int32) * nI N).toNatClampNeg then none else
        nm (sA (sW σ 22 f) 22 ((3 : Int32) * nI N).toNatClampNeg (nI y)) fun (s16 : ST) =>
        if (((3 : Int32) * nI N) + (1 : Int32)) < 0 ∨ 90 ≤ (((3 : Int32) * nI N) + (1 : Int32)).toNatClampNeg then none else
        nm (sA s16 22 (((3 : Int32) * nI N) + (1 : Int32)).toNatClampNeg (nI i)) fun (s19 : ST) =>
        if (((3 : Int32) * nI N) + (2 : Int32)) < 0 ∨ 90 ≤ (((3 : Int32) * nI N) + (2 : Int32)).toNatClampNeg then none else
        nm (sA s19 22 (((3 : Int32) * nI N) + (2 : Int32)).toNatClampNeg (0 : Int32)) fun (s22 : ST) =>
        if (((3 : Int32) * (nI N + 1)) - (1 : Int32)) < 0 ∨ 90 ≤ (((3 : Int32) * (nI N + 1)) - (1 : Int32)).toNatClampNeg then none else
        nm (sA s22 22 (((3 : Int32) * (nI N + 1)) - (1 : Int32)).toNatClampNeg ((s22.2.1 22 (((3 : Int32) * (nI N + 1)) - (1 : Int32)).toNatClampNeg) + (1 : Int32))) fun (s25 : ST) =>
        rc (nI N + 1) (nI i + 1) s25) = rc (nI (N + 1)) (nI (i + 1)) (sW σ 22 (upd (upd (upd f (3 * N) (nI y)) (3 * N + 1) (nI i)) (3 * N + 2) (nI 1))) := by
  have e3 : (3 : Int32) * (nI N + 1) - 1 = nI (3 * N + 2) := by
    rw [nI_1, m30, show 3 * (N + 1) = (3 * N + 2) + 1 by omega, nI_pred]
  rw [e3, m31, m32, m30, nI_1, nI_1, if_neg (nI_in (show 3 * N < 90 by omega) (by omega)), nI_clamp (show 3 * N < 2 ^ 31 by omega), nm_go, if_neg (nI_in (show 3 * N + 1 < 90 by omega) (by omega)), nI_clamp (show 3 * N + 1 < 2 ^ 31 by omega), nm_go, if_neg (nI_in (show 3 * N + 2 < 90 by omega) (by omega)), nI_clamp (show 3 * N + 2 < 2 ^ 31 by omega), nm_go, if_neg (ckd (show 3 * N + 2 < 90 by omega) (by omega)), nm_go, sA_sW, sA_sW, sA_sW]
  have e4 : ∀ g : Nat → Int32, (sW σ 22 g).2.1 22 = g := fun g => by
    rw [st_W2, if_pos rfl]
  rw [e4, sA_sW, up2 _ _ 0]
  rfl
theorem lr_loop {F y c : Nat} {v1 v2 v4 : Int32} (hc : c < 1024) : ∀ (r n i : Nat) (base : List B3) (acc : List (Nat × Nat)) (v3 : Int32) (σ : ST) (f : Nat → Int32), i + r = 10 → r < n → (0 < i → c.testBit (i - 1) → acc ≠ []) → RB3 (base ++ acc.reverse.map (gy y)) v3 f → base.length + (mR c r i acc).length ≤ 30 → ∃ f' : Nat → Int32, ∃ v3' : Int32, gX11_layRuns_67 F v1 v2 v4 (nI y) (nI c) n v3 (nI i) (sW σ 22 f) = some (v3', nI 10, sW σ 22 f') ∧ RB3 (base ++ (mR c r i acc).reverse.map (gy y)) v3' f' := by
  intro r
  induction r with
  | zero =>
    intro n i base acc v3 σ f hi hn ha h hl
    obtain ⟨m, rfl⟩ : ∃ m, n = m + 1 := ⟨n - 1, by omega⟩
    refine ⟨f, v3, ?_, h⟩
    show gbX11_layRuns_67 F v1 v2 v4 (nI y) (nI c) _ v3 (nI i) (sW σ 22 f) = _
    unfold gbX11_layRuns_67
    rw [show i = 10 by omega, if_pos (by decide)]
  | succ r ih =>
    intro n i base acc v3 σ f hi hn ha h hl
    obtain ⟨m, rfl⟩ : ∃ m, n = m + 1 := ⟨n - 1, by omega⟩
    have e : gX11_layRuns_67 F v1 v2 v4 (nI y) (nI c) (m + 1) v3 (nI i) (sW σ 22 f) = gbX11_layRuns_67 F v1 v2 v4 (nI y) (nI c) (gX11_layRuns_67 F v1 v2 v4 (nI y) (nI c) m) v3 (nI i) (sW σ 22 f) := rfl
    have hml := mR_len c (r + 1) i acc ha
    have hlen : (base ++ acc.reverse.map (gy y)).length = base.length + acc.length := by
      rw [List.length_append, List.length_map, List.length_reverse]
    have hv3 : v3 = nI (base.length + acc.length) := by rw [h.1, hlen]
    have hnew : ∀ (N : Nat), N = base.length + acc.length → RB3 (base ++ ((i, 1) :: acc).reverse.map (gy y)) (nI (N + 1)) (upd (upd (upd f (3 * N) (nI y)) (3 * N + 1) (nI i)) (3 * N + 2) (nI 1)) := by
      intro N hN
      have := RB3_push (q := (y, i, 1)) h
      rw [hlen, ← hN, h.1, hlen, ← hN, nI_1, List.append_assoc] at this
      rw [List.reverse_cons, List.map_append]
      exact this
    rw [mR] at hl hml ⊢
    rw [e]
    unfold gbX11_layRuns_67
    rw [if_neg (show ¬ (10 : Int32) ≤ nI i from nI_ge (a := i) (b := 10) (by omega) (by omega)), shb (by omega) (by omega)]
    by_cases hb : c.testBit i
    · rw [if_pos hb] at hl hml
      rw [if_pos hb, if_pos hb, if_pos (show (1 : Int32) = 1 from rfl)]
      by_cases h0 : i = 0
      · have hp : ¬ (0 < i ∧ c.testBit (i - 1)) := by omega
        rw [if_neg hp] at hl hml
        rw [if_neg hp, if_pos (show nI i ≤ 0 by rw [h0]; decide), hv3, lr_new (F := F) (v1 := v1) (v2 := v2) (v4 := v4) (v6 := v3) (show base.length + acc.length < 30 by
          have := mR_len c r (i + 1) ((i, 1) :: acc) (fun _ _ => by simp)
          rw [List.length_cons] at this
          omega)]
        exact ih m (i + 1) base ((i, 1) :: acc) _ σ _ (by omega) (by omega) (fun _ _ => by simp) (hnew _ rfl) hl
      · obtain ⟨i', rfl⟩ : ∃ i', i = i' + 1 := ⟨i - 1, by omega⟩
        rw [if_neg (nI_nle (show 0 < i' + 1 by omega) (by omega)), nI_pred, shb (by omega) (by omega)]
        rw [Nat.add_sub_cancel] at hl hml ha ⊢
        by_cases hp : c.testBit i'
        · rw [if_pos (show 0 < i' + 1 ∧ c.testBit i' from ⟨by omega, hp⟩)] at hl hml
          rw [if_pos (show 0 < i' + 1 ∧ c.testBit i' from ⟨by omega, hp⟩), if_pos hp, if_pos (show (1 : Int32) = 1 from rfl)]
          cases acc with
          | nil => exact absurd rfl (ha (by omega) hp)
          | cons p a =>
            obtain ⟨x, k⟩ := p
            have hl : base.length + (mR c r (i' + 1 + 1) ((x, k + 1) :: a)).length ≤ 30 := hl
            have hle : (base ++ a.reverse.map (gy y)).length = base.length + a.length := by
              rw [List.length_append, List.length_map, List.length_reverse]
            have h3 := mR_len c r (i' + 1 + 1) ((x, k + 1) :: a) (fun _ _ => by simp)
            rw [List.length_cons] at h3 hv3
            have e3 : (3 : Int32) * v3 - 1 = nI (3 * (base.length + a.length) + 2) := by
              rw [hv3, m30, show 3 * (base.length + (a.length + 1)) = (3 * (base.length + a.length) + 2) + 1 by omega, nI_pred]
            have e4 : ∀ g : Nat → Int32, (sW σ 22 g).2.1 22 = g := fun g => by
              rw [st_W2, if_pos rfl]
            have hR : RB3 ((base ++ a.reverse.map (gy y)) ++ [(y, x, k)]) v3 f := by
              rw [List.append_assoc]
              rw [List.reverse_cons, List.map_append] at h
              exact h
            have hR2 := RB3_inc hR
            rw [hle] at hR2
            rw [e3, if_neg (nI_in (show 3 * (base.length + a.length) + 2 < 90 by omega) (by omega)), nI_clamp (by omega), nm_go, e4, sA_sW, nI_1]
            exact ih m (i' + 1 + 1) base ((x, k + 1) :: a) _ σ _ (by omega) (by omega) (fun _ _ => by simp) (by rw [List.reverse_cons, List.map_append, ← List.append_assoc]; exact hR2) hl
        · have hp' : ¬ (0 < i' + 1 ∧ c.testBit i') := fun h => hp h.2
          rw [if_neg hp'] at hl hml
          rw [if_neg hp', if_neg hp, if_neg (show ¬ (0 : Int32) = 1 by decide), hv3, lr_new (F := F) (v1 := v1) (v2 := v2) (v4 := v4) (v6 := v3) (show base.length + acc.length < 30 by
            have := mR_len c r (i' + 1 + 1) ((i' + 1, 1) :: acc) (fun _ _ => by simp)
            rw [List.length_cons] at this
            omega)]
          exact ih m (i' + 1 + 1) base ((i' + 1, 1) :: acc) _ σ _ (by omega) (by omega) (fun _ _ => by simp) (hnew _ rfl) hl
    · rw [if_neg hb] at hl hml
      rw [if_neg hb, if_neg hb, if_neg (show ¬ (0 : Int32) = 1 by decide), nI_1]
      obtain ⟨f', v3', g1, g2⟩ := ih m (i + 1) base acc v3 σ f (by omega) (by omega) (fun _ h2 => absurd h2 (by rw [Nat.add_sub_cancel]; exact hb)) h hl
      rw [g1]
      simp only [ite_self]
      exact ⟨f', v3', rfl, g2⟩
