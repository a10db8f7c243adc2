/-! the reference goes through all rows of people -/
def fitB (sl : List (Nat × Nat)) (c : Nat) : Bool := decide (dL sl 0 10 c = wnL sl)
def tbI (j : Nat) : Int32 := vI (j / 30) (j / 3 % 10) (j % 3)
theorem tb_at {t x d : Nat} (hx : x < 10) (hd : d < 3) : tbI (30 * t + 3 * x + d) = vI t x d := by
  unfold tbI
  rw [show (30 * t + 3 * x + d) / 30 = t by omega, show (30 * t + 3 * x + d) / 3 % 10 = x by omega, show (30 * t + 3 * x + d) % 3 = d by omega]
theorem rem3 {c : Nat} (h : c < 2 ^ 31) : nI c - nI c / 3 * 3 = nI (c % 3) := pk_rem (d := 3) h (by omega) (by omega)
theorem div3 {c : Nat} (h : c < 2 ^ 31) : nI c / 3 = nI (c / 3) := pk_div (d := 3) h (by omega) (by omega)
theorem tab_loop {v1 : Int32} : ∀ (r n i : Nat) (σ : ST) (f : Nat → Int32), i + r = 480 → r < n → (∀ j, j < i → f j = tbI j) → ∃ f' : Nat → Int32, gX11_layFits_2 FU v1 n (nI i) (sW σ 26 f) = some (nI 480, sW σ 26 f') ∧ ∀ j, j < 480 → f' j = tbI j := by
  intro r
  induction r with
  | zero =>
    intro n i σ f hi hn h
    obtain ⟨m, rfl⟩ : ∃ m, n = m + 1 := ⟨n - 1, by omega⟩
    refine ⟨f, ?_, fun j hj => h j (by omega)⟩
    show gbX11_layFits_2 FU v1 _ (nI i) _ = _
    unfold gbX11_layFits_2
    rw [show i = 480 by omega, if_pos (by decide)]
  | succ r ih =>
    intro n i σ f hi hn h
    obtain ⟨m, rfl⟩ : ∃ m, n = m + 1 := ⟨n - 1, by omega⟩
    have hs : ∀ j, j < i + 1 → upd f i (tbI i) j = tbI j := fun j hj => by
      unfold upd
      by_cases e : j = i
      · rw [if_pos e, e]
      · rw [if_neg e]
        exact h j (by omega)
    obtain ⟨f', g1, g2⟩ := ih m (i + 1) σ (upd f i (tbI i)) (by omega) (by omega) hs
    refine ⟨f', ?_, g2⟩
    show gbX11_layFits_2 FU v1 (gX11_layFits_2 FU v1 m) (nI i) _ = _
    unfold gbX11_layFits_2
    have e10 : nI (i / 3) - nI (i / 3) / 10 * 10 = nI (i / 3 % 10) := pk_rem (d := 10) (by omega) (by omega) (by omega)
    have e30 : nI i / 30 = nI (i / 30) := pk_div (d := 30) (by omega) (by omega) (by omega)
    have r1 := reachM (k := 1) (x := i / 3 % 10) (t := i / 30) (by omega) (by omega) (by omega)
    have r2 := reachM (k := 0) (x := i / 3 % 10) (t := i / 30) (by omega) (by omega) (by omega)
    rw [show hgtI 1 = (3 : Int32) from rfl] at r1
    rw [show hgtI 0 = (6 : Int32) from rfl] at r2
    rw [if_neg (show ¬ (480 : Int32) ≤ nI i from nI_ge (a := i) (b := 480) (by omega) (by omega)), rem3 (by omega), div3 (by omega), e10, e30, r1, r2, bd_some, bd_some, if_neg (nI_in (show i < 480 by omega) (by omega)), nI_clamp (by omega)]
    have et : tbI i = vI (i / 30) (i / 3 % 10) (i % 3) := rfl
    unfold vI at et
    rcases (show i % 3 = 0 ∨ i % 3 = 1 ∨ i % 3 = 2 by omega) with e | e | e
    · rw [if_pos e] at et
      rw [e, if_pos (show nI 0 = (0 : Int32) from rfl), nm_go, sA_sW, nI_1, ← et]
      exact g1
    · rw [if_neg (by omega), if_pos e] at et
      rw [e, if_neg (show ¬ nI 1 = (0 : Int32) by decide), if_pos (show nI 1 = (1 : Int32) from rfl), if_neg (ckd (show i < 480 by omega) (by omega)), nm_go, sA_sW, nI_1, ← et]
      exact g1
    · rw [if_neg (by omega), if_neg (by omega)] at et
      rw [e, if_neg (show ¬ nI 2 = (0 : Int32) by decide), if_neg (show ¬ nI 2 = (1 : Int32) by decide), if_neg (ckd (show i < 480 by omega) (by omega)), nm_go, sA_sW, nI_1, ← et]
      exact g1
theorem rd_loop {F t : Nat} {v1 : Int32} {σ : ST} (hT : ∀ j, j < 480 → σ.2.1 26 j = tbI j) (ht : t < 16) : ∀ (r n x c : Nat) (v : Int32), x + r = 10 → r < n → c < 2 ^ 31 → ∃ z : Int32 × Int32 × Int32, gX11_rowDark_8 F σ v1 (nI t) n v (nI c) (nI x) = some z ∧ z.1 = v ||| dI t x r c := by
  intro r
  induction r with
  | zero =>
    intro n x c v hx hn hc
    obtain ⟨m, rfl⟩ : ∃ m, n = m + 1 := ⟨n - 1, by omega⟩
    refine ⟨(v, nI c, nI x), ?_, (ior0 v).symm⟩
    show gbX11_rowDark_8 F σ v1 (nI t) _ v (nI c) (nI x) = _
    unfold gbX11_rowDark_8
    rw [show x = 10 by omega, if_pos (by decide)]
  | succ r ih =>
    intro n x c v hx hn hc
    obtain ⟨m, rfl⟩ : ∃ m, n = m + 1 := ⟨n - 1, by omega⟩
    obtain ⟨z, g1, g2⟩ := ih m (x + 1) (c / 3) (v ||| vI t x (c % 3)) (by omega) (by omega) (by omega)
    refine ⟨z, ?_, ?_⟩
    · show gbX11_rowDark_8 F σ v1 (nI t) (gX11_rowDark_8 F σ v1 (nI t) m) v (nI c) (nI x) = _
      unfold gbX11_rowDark_8
      have e1 : (30 : Int32) * nI t + 3 * nI x + (nI c - nI c / 3 * 3) = nI (30 * t + 3 * x + c % 3) := by
        rw [rem3 hc, show (30 : Int32) = nI 30 from rfl, show (3 : Int32) = nI 3 from rfl, pk_mul, pk_mul, nI_add, nI_add]
      rw [if_neg (show ¬ (10 : Int32) ≤ nI x from nI_ge (a := x) (b := 10) (by omega) (by omega)), e1, if_neg (nI_in (show 30 * t + 3 * x + c % 3 < 480 by omega) (by omega)), nI_clamp (by omega), hT _ (by omega), tb_at (by omega) (by omega), nm_go, div3 hc, nI_1]
      exact g1
    · rw [g2]
      exact sl32.as _ _ _
theorem rdM {t c : Nat} {σ : ST} (hT : ∀ j, j < 480 → σ.2.1 26 j = tbI j) (ht : t < 16) (hc : c < 2 ^ 31) : fX11_rowDark FU σ (nI c) (nI t) = some (dI t 0 10 c) := by
  obtain ⟨z, h1, h2⟩ := rd_loop (F := FU) (v1 := nI c) hT ht 10 FU 0 c 0 (by omega) (by unfold FU; omega) hc
  unfold fX11_rowDark
  rw [show nI 0 = (0 : Int32) from rfl] at h1
  rw [h1, bd_some, h2]
  exact congrArg some (sl32.ze _)
def okS (c : Nat) (q : Nat × Nat) : Bool := decide (dI q.1 0 10 c = nI q.2)
theorem if_loop {c : Nat} {sl : List (Nat × Nat)} {σ : ST} (hT : ∀ j, j < 480 → σ.2.1 26 j = tbI j) (hv : vS sl) (hs : RS sl (σ.1 23) (σ.2.1 24) (σ.2.1 25)) (hc : c < 2 ^ 31) : ∀ (r n i : Nat), i + r = sl.length → r + 1 < n → ∃ z : Int32 × Int32, gX11_isFit_4 FU σ (nI c) n 1 (nI i) = some z ∧ z.1 = if (sl.drop i).all (okS c) then 1 else 0 := by
  have h6 := hv.1
  intro r
  induction r with
  | zero =>
    intro n i hi hn
    obtain ⟨m, rfl⟩ : ∃ m, n = m + 1 := ⟨n - 1, by omega⟩
    refine ⟨(1, nI i), ?_, ?_⟩
    · show gbX11_isFit_4 FU σ (nI c) _ 1 (nI i) = _
      unfold gbX11_isFit_4
      rw [hs.1, if_pos (nI_le (by omega) (by omega))]
    · rw [List.drop_eq_nil_of_le (by omega)]
      rfl
  | succ r ih =>
    intro n i hi hn
    obtain ⟨m, rfl⟩ : ∃ m, n = m + 1 := ⟨n - 1, by omega⟩
    obtain ⟨q, hq, hqm⟩ := at_get (show i < sl.length by omega)
    have hd : sl.drop i = q :: sl.drop (i + 1) := by
      obtain ⟨h1, h2⟩ := List.getElem?_eq_some_iff.mp hq
      rw [List.drop_eq_getElem_cons h1, h2]
    have e : gX11_isFit_4 FU σ (nI c) (m + 1) 1 (nI i) = gbX11_isFit_4 FU σ (nI c) (gX11_isFit_4 FU σ (nI c) m) 1 (nI i) := rfl
    rw [e, hd, List.all_cons]
    unfold gbX11_isFit_4
    rw [hs.1, if_neg (nI_ge (by omega) (by omega)), if1, if_neg (nI_in (show i < 6 by omega) (by omega)), nI_clamp (by omega), (hs.2 i q hq).1, (hs.2 i q hq).2, rdM hT (hv.2 q hqm).1 hc, bd_some, nI_1]
    by_cases hk : dI q.1 0 10 c = nI q.2
    · obtain ⟨z, g1, g2⟩ := ih m (i + 1) (by omega) (by omega)
      rw [if_pos hk]
      refine ⟨z, g1, ?_⟩
      rw [g2, show okS c q = true from decide_eq_true hk, Bool.true_and]
    · obtain ⟨m', rfl⟩ : ∃ m', m = m' + 1 := ⟨m - 1, by omega⟩
      rw [if_neg hk, show okS c q = false from decide_eq_false hk, Bool.false_and]
      refine ⟨(0, nI (i + 1)), ?_, rfl⟩
      show gbX11_isFit_4 FU σ (nI c) _ 0 (nI (i + 1)) = _
      unfold gbX11_isFit_4
      rw [if0]
      simp only [ite_self]
theorem ifM {c : Nat} {sl : List (Nat × Nat)} {σ : ST} (hT : ∀ j, j < 480 → σ.2.1 26 j = tbI j) (hv : vS sl) (hs : RS sl (σ.1 23) (σ.2.1 24) (σ.2.1 25)) (hc : c < 2 ^ 31) : fX11_isFit FU σ (nI c) = some (if fitB sl c then 1 else 0) := by
  obtain ⟨z, h1, h2⟩ := if_loop hT hv hs hc sl.length FU 0 (by omega) (by have := hv.1; unfold FU; omega)
  rw [show nI 0 = (0 : Int32) from rfl] at h1
  rw [List.drop_zero] at h2
  have e : sl.all (okS c) = fitB sl c := by
    unfold fitB
    by_cases h : dL sl 0 10 c = wnL sl
    · rw [decide_eq_true h, List.all_eq_true]
      exact fun q hq => decide_eq_true ((fit_iff hv c).mp h q hq)
    · rw [decide_eq_false h]
      cases ha : sl.all (okS c) with
      | false => rfl
      | true =>
        rw [List.all_eq_true] at ha
        exact absurd ((fit_iff hv c).mpr (fun q hq => of_decide_eq_true (ha q hq))) h
  rw [e] at h2
  unfold fX11_isFit
  rw [h1, bd_some, h2]
  cases fitB sl c
  · rfl
  · rfl
/-- one that fits, told -/
def mkV (x d : Nat) : Int32 := if d = 0 then 0 else 1 <<< (nI x &&& 31)
def mkI (x r c : Nat) : Int32 := dO (· ||| ·) 0 mkV x r c
theorem lf_loop {F : Nat} {v1 : Int32} {σ : ST} : ∀ (r n x c h : Nat) (v : Int32), x + r = 10 → r < n → c < 2 ^ 31 → ∃ z : Int32 × Int32 × Int32 × Int32, gX11_layFit_10 F σ v1 n (nI h) v (nI c) (nI x) = some z ∧ z.1 = nI (h + hdN r c) ∧ z.2.1 = v ||| mkI x r c := by
  intro r
  induction r with
  | zero =>
    intro n x c h v hx hn hc
    obtain ⟨m, rfl⟩ : ∃ m, n = m + 1 := ⟨n - 1, by omega⟩
    refine ⟨(nI h, v, nI c, nI x), ?_, rfl, (ior0 v).symm⟩
    show gbX11_layFit_10 F σ v1 _ (nI h) v (nI c) (nI x) = _
    unfold gbX11_layFit_10
    rw [show x = 10 by omega, if_pos (by decide)]
  | succ r ih =>
    intro n x c h v hx hn hc
    obtain ⟨m, rfl⟩ : ∃ m, n = m + 1 := ⟨n - 1, by omega⟩
    have e : gX11_layFit_10 F σ v1 (m + 1) (nI h) v (nI c) (nI x) = gbX11_layFit_10 F σ v1 (gX11_layFit_10 F σ v1 m) (nI h) v (nI c) (nI x) := rfl
    have em : mkI x (r + 1) c = mkV x (c % 3) ||| mkI (x + 1) r (c / 3) := rfl
    rw [e, em, hdN]
    unfold gbX11_layFit_10
    rw [if_neg (show ¬ (10 : Int32) ≤ nI x from nI_ge (a := x) (b := 10) (by omega) (by omega)), rem3 hc, div3 hc, nI_1]
    by_cases h0 : c % 3 = 0
    · obtain ⟨z, g1, g2, g3⟩ := ih m (x + 1) (c / 3) h (v ||| 0) (by omega) (by omega) (by omega)
      rw [h0, if_pos (show nI 0 ≤ (0 : Int32) by decide), if_pos (show nI 0 ≤ (0 : Int32) by decide), Int32.add_zero, if_pos rfl]
      refine ⟨z, g1, by rw [g2, Nat.zero_add], ?_⟩
      rw [g3]
      exact sl32.as _ _ _
    · obtain ⟨z, g1, g2, g3⟩ := ih m (x + 1) (c / 3) (h + 1) (v ||| mkV x (c % 3)) (by omega) (by omega) (by omega)
      have ev : mkV x (c % 3) = 1 <<< (nI x &&& 31) := by
        unfold mkV
        rw [if_neg h0]
      rw [ev] at g1
      rw [if_neg (nI_nle (show 0 < c % 3 by omega) (by omega)), if_neg (nI_nle (show 0 < c % 3 by omega) (by omega)), nI_1, if_neg h0]
      refine ⟨z, g1, by rw [g2, Nat.add_assoc], ?_⟩
      rw [g3]
      exact sl32.as _ _ _
def mnS (a : Int32) (h : Nat) : Int32 := if a ≤ nI h then a else nI h
def mxS (a : Int32) (h : Nat) : Int32 := if nI h ≤ a then a else nI h
theorem lfM {c : Nat} (σ : ST) (hc : c < 2 ^ 31) : fX11_layFit FU σ (nI c) = some (sI (sI (sI σ 28 (mnS (σ.1 28) (hdN 10 c))) 29 (mxS (σ.1 29) (hdN 10 c))) 30 (σ.1 30 &&& mkI 0 10 c)) := by
  obtain ⟨z, h1, h2, h3⟩ := lf_loop (F := FU) (σ := σ) (v1 := nI c) 10 FU 0 c 0 0 (by omega) (by unfold FU; omega) hc
  rw [show nI 0 = (0 : Int32) from rfl] at h1
  have h3 : z.2.1 = mkI 0 10 c := h3.trans (sl32.ze _)
  rw [Nat.zero_add] at h2
  unfold fX11_layFit mnS mxS
  rw [h1, bd_some, h2, h3]
  by_cases c1 : σ.1 28 ≤ nI (hdN 10 c)
  · rw [if_pos c1, if_pos c1, nm_go]
    have e : (sI σ 28 (σ.1 28)).1 29 = σ.1 29 := rfl
    rw [e]
    by_cases c2 : nI (hdN 10 c) ≤ σ.1 29
    · rw [if_pos c2, if_pos c2]
      rfl
    · rw [if_neg c2, if_neg c2]
      rfl
  · rw [if_neg c1, if_neg c1, nm_go]
    have e : (sI σ 28 (nI (hdN 10 c))).1 29 = σ.1 29 := rfl
    rw [e]
    by_cases c2 : nI (hdN 10 c) ≤ σ.1 29
    · rw [if_pos c2, if_pos c2]
      rfl
    · rw [if_neg c2, if_neg c2]
      rfl
/-- what was shown -/
def shP (c j t0 : Nat) : Prop := ∃ t, t0 ≤ t ∧ t < 16 ∧ 1024 * t + (dI t 0 10 c).toNatClampNeg = j
theorem sh_loop {c : Nat} {σ : ST} (hT : ∀ j, j < 480 → σ.2.1 26 j = tbI j) (hc : c < 2 ^ 31) : ∀ (r n t : Nat) (f : Nat → Int32), t + r = 16 → r < n → ∃ f' : Nat → Int32, gX11_layFits_140 FU 1 (nI c) n (nI t) (sW σ 31 f) = some (nI 16, sW σ 31 f') ∧ ∀ j, (f' j = 0 ↔ (f j = 0 ∧ ¬ shP c j t)) := by
  intro r
  induction r with
  | zero =>
    intro n t f hi hn
    obtain ⟨m, rfl⟩ : ∃ m, n = m + 1 := ⟨n - 1, by omega⟩
    refine ⟨f, ?_, fun j => ⟨fun h => ⟨h, fun ⟨t', a, b, _⟩ => by omega⟩, fun h => h.1⟩⟩
    show gbX11_layFits_140 FU 1 (nI c) _ (nI t) _ = _
    unfold gbX11_layFits_140
    rw [show t = 16 by omega, if_pos (by decide)]
  | succ r ih =>
    intro n t f hi hn
    obtain ⟨m, rfl⟩ : ∃ m, n = m + 1 := ⟨n - 1, by omega⟩
    have hl := dI_lo (t := t) (by omega) 10 0 c (by omega)
    have hl2 := hl.2
    obtain ⟨f', g1, g2⟩ := ih m (t + 1) (upd f (1024 * t + (dI t 0 10 c).toNatClampNeg) 1) (by omega) (by omega)
    refine ⟨f', ?_, fun j => ?_⟩
    · show gbX11_layFits_140 FU 1 (nI c) (gX11_layFits_140 FU 1 (nI c) m) (nI t) _ = _
      unfold gbX11_layFits_140
      have e1 : (1024 : Int32) * nI t + dI t 0 10 c = nI (1024 * t + (dI t 0 10 c).toNatClampNeg) := by
        rw [hl.1, nI_clamp (by omega), show (1024 : Int32) = nI 1024 from rfl, pk_mul, nI_add]
      rw [if_neg (show ¬ (16 : Int32) ≤ nI t from nI_ge (a := t) (b := 16) (by omega) (by omega)), if1, rdM (σ := sW σ 31 f) hT (by omega) hc, bd_some, e1, if_neg (nI_in (show 1024 * t + (dI t 0 10 c).toNatClampNeg < 16384 by omega) (by omega)), nI_clamp (by omega), nm_go, sA_sW, show vp_nar .boolean (1 : Int32) = 1 by decide, nI_1]
      exact g1
    · rw [g2]
      unfold upd
      by_cases e : j = 1024 * t + (dI t 0 10 c).toNatClampNeg
      · rw [if_pos e]
        exact ⟨fun h => absurd h.1 (by decide), fun h => absurd ⟨t, by omega, by omega, e.symm⟩ h.2⟩
      · rw [if_neg e]
        constructor
        · rintro ⟨h1, h2⟩
          refine ⟨h1, fun ⟨t', a, b, d⟩ => ?_⟩
          by_cases ht : t' = t
          · subst ht
            exact e d.symm
          · exact h2 ⟨t', by omega, b, d⟩
        · rintro ⟨h1, h2⟩
          exact ⟨h1, fun ⟨t', a, b, d⟩ => h2 ⟨t', by omega, b, d⟩⟩
def FR (σ σ' : ST) : Prop := (∀ k, k < 27 ∨ 30 < k → σ'.1 k = σ.1 k) ∧ ∀ k, k ≠ 26 → k ≠ 31 → σ'.2.1 k = σ.2.1 k
def mnA (fit : Nat → Bool) : Nat → Int32
  | 0 => 99
  | c + 1 => if fit c then mnS (mnA fit c) (hdN 10 c) else mnA fit c
def mxA (fit : Nat → Bool) : Nat → Int32
  | 0 => -9
  | c + 1 => if fit c then mxS (mxA fit c) (hdN 10 c) else mxA fit c
def anA (fit : Nat → Bool) : Nat → Int32
  | 0 => 1023
  | c + 1 => if fit c then anA fit c &&& mkI 0 10 c else anA fit c
def MS (fit : Nat → Bool) (al : Bool) (σ0 : ST) (c : Nat) (σ : ST) : Prop := σ.1 27 = nI (fb_ct fit c) ∧ σ.1 28 = mnA fit c ∧ σ.1 29 = mxA fit c ∧ σ.1 30 = anA fit c ∧ FR σ0 σ ∧ (∀ j, j < 480 → σ.2.1 26 j = tbI j) ∧ (al = true → ∀ j, j < 16384 → (σ.2.1 31 j = 0 ↔ ¬ ∃ c', c' < c ∧ fit c' = true ∧ shP c' j 0))
theorem ma_loop {sl : List (Nat × Nat)} {al : Bool} {σ0 : ST} (hv : vS sl) (hs : RS sl (σ0.1 23) (σ0.2.1 24) (σ0.2.1 25)) : ∀ (r n c : Nat) (σ : ST), c + r = 59049 → r < n → MS (fitB sl) al σ0 c σ → ∃ z : Int32 × ST, gX11_layFits_109 FU (if al then 1 else 0) n (nI c) σ = some z ∧ MS (fitB sl) al σ0 59049 z.2 := by
  intro r
  induction r with
  | zero =>
    intro n c σ hi hn h
    obtain ⟨m, rfl⟩ : ∃ m, n = m + 1 := ⟨n - 1, by omega⟩
    have e : c = 59049 := by omega
    subst e
    refine ⟨(nI 59049, σ), ?_, h⟩
    show gbX11_layFits_109 FU _ _ (nI 59049) _ = _
    unfold gbX11_layFits_109
    rw [if_pos (by decide)]
  | succ r ih =>
    intro n c σ hi hn h
    obtain ⟨m, rfl⟩ : ∃ m, n = m + 1 := ⟨n - 1, by omega⟩
    obtain ⟨h27, h28, h29, h30, hF, hT, hS⟩ := h
    have e : gX11_layFits_109 FU (if al then 1 else 0) (m + 1) (nI c) σ = gbX11_layFits_109 FU (if al then 1 else 0) (gX11_layFits_109 FU (if al then 1 else 0) m) (nI c) σ := rfl
    have hs' : RS sl (σ.1 23) (σ.2.1 24) (σ.2.1 25) := by
      rw [hF.1 23 (by omega), hF.2 24 (by omega) (by omega), hF.2 25 (by omega) (by omega)]
      exact hs
    rw [e]
    unfold gbX11_layFits_109
    rw [if_neg (show ¬ (59049 : Int32) ≤ nI c from nI_ge (a := c) (b := 59049) (by omega) (by omega)), ifM hT hv hs' (by omega), bd_some, nI_1]
    cases hf : fitB sl c with
    | false =>
      rw [show (if false = true then (1 : Int32) else 0) = 0 from rfl, if0]
      refine ih m (c + 1) σ (by omega) (by omega) ⟨?_, ?_, ?_, ?_, hF, hT, fun ha j hj => ?_⟩
      · rw [h27, fb_ct_succ, hf]
        rfl
      · rw [h28, mnA, hf]
        rfl
      · rw [h29, mxA, hf]
        rfl
      · rw [h30, anA, hf]
        rfl
      · rw [hS ha j hj]
        constructor
        · rintro h1 ⟨c', a, b, d⟩
          by_cases hc : c' = c
          · subst hc
            rw [hf] at b
            cases b
          · exact h1 ⟨c', by omega, b, d⟩
        · rintro h1 ⟨c', a, b, d⟩
          exact h1 ⟨c', by omega, b, d⟩
    | true =>
      rw [show (if true = true then (1 : Int32) else 0) = 1 from rfl, if1, nm_go, lfM _ (by omega), bd_some]
      have a28 : (sI σ 27 (σ.1 27 + 1)).1 28 = mnA (fitB sl) c := h28
      have a29 : (sI σ 27 (σ.1 27 + 1)).1 29 = mxA (fitB sl) c := h29
      have a30 : (sI σ 27 (σ.1 27 + 1)).1 30 = anA (fitB sl) c := h30
      rw [a28, a29, a30, h27, nI_1]
      generalize hg : sI (sI (sI (sI σ 27 (nI (fb_ct (fitB sl) c + 1))) 28 (mnS (mnA (fitB sl) c) (hdN 10 c))) 29 (mxS (mxA (fitB sl) c) (hdN 10 c))) 30 (anA (fitB sl) c &&& mkI 0 10 c) = σ1
      have b27 : σ1.1 27 = nI (fb_ct (fitB sl) (c + 1)) := by
        rw [← hg, fb_ct_succ, hf]
        rfl
      have b28 : σ1.1 28 = mnA (fitB sl) (c + 1) := by
        rw [← hg, mnA, hf]
        rfl
      have b29 : σ1.1 29 = mxA (fitB sl) (c + 1) := by
        rw [← hg, mxA, hf]
        rfl
      have b30 : σ1.1 30 = anA (fitB sl) (c + 1) := by
        rw [← hg, anA, hf]
        rfl
      have bA : σ1.2 = σ.2 := by rw [← hg]; rfl
      have bI : ∀ k, k < 27 ∨ 30 < k → σ1.1 k = σ.1 k := fun k hk => by
        rw [← hg, st_I1, st_I1, st_I1, st_I1, if_neg (by omega), if_neg (by omega), if_neg (by omega), if_neg (by omega)]
      have bF : FR σ0 σ1 := ⟨fun k hk => (bI k hk).trans (hF.1 k hk), fun k h1 h2 => by rw [bA]; exact hF.2 k h1 h2⟩
      cases al with
      | false =>
        have e140 : gX11_layFits_140 FU 0 (nI c) FU 0 σ1 = some (0, σ1) := by
          have e : gX11_layFits_140 FU 0 (nI c) FU 0 σ1 = gbX11_layFits_140 FU 0 (nI c) (gX11_layFits_140 FU 0 (nI c) (FU - 1)) 0 σ1 := rfl
          rw [e]
          unfold gbX11_layFits_140
          rw [if_neg (show ¬ (16 : Int32) ≤ 0 by decide), if0]
        rw [show (if false = true then (1 : Int32) else 0) = 0 from rfl, e140, bd_some]
        exact ih m (c + 1) σ1 (by omega) (by omega) ⟨b27, b28, b29, b30, bF, fun j hj => by rw [bA]; exact hT j hj, fun ha => by cases ha⟩
      | true =>
        obtain ⟨f', g1, g2⟩ := sh_loop (c := c) (σ := σ1) (fun j hj => by rw [bA]; exact hT j hj) (by omega) 16 FU 0 (σ1.2.1 31) (by omega) (by unfold FU; omega)
        rw [sW_same, show nI 0 = (0 : Int32) from rfl] at g1
        rw [show (if true = true then (1 : Int32) else 0) = 1 from rfl, g1, bd_some]
        have key : MS (fitB sl) true σ0 (c + 1) (sW σ1 31 f') := by
          refine ⟨b27, b28, b29, b30, ⟨bF.1, fun k h1 h2 => ?_⟩, fun j hj => ?_, fun _ j hj => ?_⟩
          · rw [st_W2, if_neg h2]
            exact bF.2 k h1 h2
          · rw [st_W2, if_neg (by omega), bA]
            exact hT j hj
          · rw [st_W2, if_pos rfl, g2, bA, hS rfl j hj]
            constructor
            · rintro ⟨h1, h2⟩ ⟨c', a, b, d⟩
              by_cases hc : c' = c
              · subst hc
                exact h2 d
              · exact h1 ⟨c', by omega, b, d⟩
            · intro h1
              exact ⟨fun ⟨c', a, b, d⟩ => h1 ⟨c', by omega, b, d⟩, fun d => h1 ⟨c, by omega, hf, d⟩⟩
        exact ih m (c + 1) _ (by omega) (by omega) key
theorem cl_loop {F : Nat} : ∀ (r n i : Nat) (σ : ST) (f : Nat → Int32), i + r = 16384 → r < n → (∀ j, j < i → f j = 0) → ∃ f' : Nat → Int32, gX11_layFits_83 F 1 n (nI i) (sW σ 31 f) = some (nI 16384, sW σ 31 f') ∧ ∀ j, j < 16384 → f' j = 0 := by
  intro r
  induction r with
  | zero =>
    intro n i σ f hi hn h
    obtain ⟨m, rfl⟩ : ∃ m, n = m + 1 := ⟨n - 1, by omega⟩
    have e : i = 16384 := by omega
    subst e
    refine ⟨f, ?_, fun j hj => h j (by omega)⟩
    show gbX11_layFits_83 F 1 _ (nI 16384) _ = _
    unfold gbX11_layFits_83
    rw [if_pos (by decide)]
  | succ r ih =>
    intro n i σ f hi hn h
    obtain ⟨m, rfl⟩ : ∃ m, n = m + 1 := ⟨n - 1, by omega⟩
    obtain ⟨f', g1, g2⟩ := ih m (i + 1) σ (upd f i 0) (by omega) (by omega) (fun j hj => by
      unfold upd
      by_cases e : j = i
      · rw [if_pos e]
      · rw [if_neg e]
        exact h j (by omega))
    refine ⟨f', ?_, g2⟩
    show gbX11_layFits_83 F 1 (gX11_layFits_83 F 1 m) (nI i) _ = _
    unfold gbX11_layFits_83
    rw [if_neg (show ¬ (16384 : Int32) ≤ nI i from nI_ge (a := i) (b := 16384) (by omega) (by omega)), if1, if_neg (nI_in (show i < 16384 by omega) (by omega)), nI_clamp (by omega), nm_go, sA_sW, show vp_nar .boolean (0 : Int32) = 0 by decide, nI_1]
    exact g1
theorem layM {sl : List (Nat × Nat)} {σ : ST} (al : Bool) (hv : vS sl) (hs : RS sl (σ.1 23) (σ.2.1 24) (σ.2.1 25)) : ∃ σ', fX11_layFits FU σ (if al then 1 else 0) = some σ' ∧ MS (fitB sl) al σ 59049 σ' := by
  obtain ⟨f, t1, t2⟩ := tab_loop (v1 := if al then 1 else 0) 480 FU 0 σ (σ.2.1 26) (by omega) (by unfold FU; omega) (fun j hj => by omega)
  rw [sW_same, show nI 0 = (0 : Int32) from rfl] at t1
  unfold fX11_layFits
  rw [t1, bd_some, nm_go, nm_go, nm_go, nm_go]
  generalize hg : sI (sI (sI (sI (sW σ 26 f) 27 0) 28 99) 29 (-9)) 30 1023 = σ1
  have bI : ∀ k, k < 27 ∨ 30 < k → σ1.1 k = σ.1 k := fun k hk => by
    rw [← hg, st_I1, st_I1, st_I1, st_I1, if_neg (by omega), if_neg (by omega), if_neg (by omega), if_neg (by omega)]
    rfl
  have bA : ∀ k, k ≠ 26 → σ1.2.1 k = σ.2.1 k := fun k hk => by
    rw [← hg]
    show (if k = 26 then f else σ.2.1 k) = _
    rw [if_neg hk]
  have bT : ∀ j, j < 480 → σ1.2.1 26 j = tbI j := fun j hj => by
    rw [← hg]
    exact t2 j hj
  have b27 : σ1.1 27 = 0 := by rw [← hg]; rfl
  have b28 : σ1.1 28 = 99 := by rw [← hg]; rfl
  have b29 : σ1.1 29 = -9 := by rw [← hg]; rfl
  have b30 : σ1.1 30 = 1023 := by rw [← hg]; rfl
  cases al with
  | false =>
    have e83 : gX11_layFits_83 FU 0 FU 0 σ1 = some (0, σ1) := by
      have e : gX11_layFits_83 FU 0 FU 0 σ1 = gbX11_layFits_83 FU 0 (gX11_layFits_83 FU 0 (FU - 1)) 0 σ1 := rfl
      rw [e]
      unfold gbX11_layFits_83
      rw [if_neg (show ¬ (16384 : Int32) ≤ 0 by decide), if0]
    obtain ⟨z, m1, m2⟩ := ma_loop (al := false) hv hs 59049 FU 0 σ1 (by omega) (by unfold FU; omega) ⟨b27, b28, b29, b30, ⟨bI, fun k h1 _ => bA k h1⟩, bT, fun ha => by cases ha⟩
    rw [show (if false = true then (1 : Int32) else 0) = 0 from rfl, show nI 0 = (0 : Int32) from rfl] at m1
    rw [show (if false = true then (1 : Int32) else 0) = 0 from rfl, e83, bd_some, m1]
    exact ⟨_, rfl, m2⟩
  | true =>
    obtain ⟨f2, c1, c2⟩ := cl_loop (F := FU) 16384 FU 0 σ1 (σ1.2.1 31) (by omega) (by unfold FU; omega) (fun j hj => by omega)
    rw [sW_same, show nI 0 = (0 : Int32) from rfl] at c1
    obtain ⟨z, m1, m2⟩ := ma_loop (al := true) hv hs 59049 FU 0 (sW σ1 31 f2) (by omega) (by unfold FU; omega) ⟨b27, b28, b29, b30, ⟨bI, fun k h1 h2 => by rw [st_W2, if_neg h2]; exact bA k h1⟩, fun j hj => by rw [st_W2, if_neg (by omega)]; exact bT j hj, fun _ j hj => by
      rw [st_W2, if_pos rfl, c2 j hj]
      exact ⟨fun _ ⟨c', a, _⟩ => by omega, fun _ => rfl⟩⟩
    rw [show (if true = true then (1 : Int32) else 0) = 1 from rfl, show nI 0 = (0 : Int32) from rfl] at m1
    rw [show (if true = true then (1 : Int32) else 0) = 1 from rfl, c1, bd_some, m1]
    exact ⟨_, rfl, m2⟩
theorem inv_fr {S : SS} {σp σ' : ST} (h : Inv S) (hF : FR (S 20) σ') : Inv (uS (uS S 12 σp) 20 σ') := by
  obtain ⟨hT, ⟨bl, hv, hb, hm, hA⟩, ⟨hl, cl, su, hg, hd, hd3⟩, ⟨sl, hs, s1, s2⟩, hK0, hK1⟩ := h
  obtain ⟨hI, hW⟩ := hF
  have i11 := hI 11 (by omega)
  have i12 := hI 12 (by omega)
  have i13 := hI 13 (by omega)
  have i14 := hI 14 (by omega)
  have i16 := hI 16 (by omega)
  have i19 := hI 19 (by omega)
  have i20 := hI 20 (by omega)
  have i23 := hI 23 (by omega)
  have w7 := hW 7 (by omega) (by omega)
  have w8 := hW 8 (by omega) (by omega)
  have w9 := hW 9 (by omega) (by omega)
  have w10 := hW 10 (by omega) (by omega)
  have w15 := hW 15 (by omega) (by omega)
  have w21 := hW 21 (by omega) (by omega)
  have w24 := hW 24 (by omega) (by omega)
  have w25 := hW 25 (by omega) (by omega)
  have w32 := hW 32 (by omega) (by omega)
  have w33 := hW 33 (by omega) (by omega)
  have w34 := hW 34 (by omega) (by omega)
  have w35 := hW 35 (by omega) (by omega)
  have w36 := hW 36 (by omega) (by omega)
  refine ⟨?_, ⟨bl, hv, hb, ?_, ?_⟩, ⟨hl, cl, su, hg, hd, ?_⟩, ⟨sl, hs, s1, ?_⟩, ?_, ?_⟩
  · show PT (S 1) (σ'.1 16) (σ'.2.1 15)
    rw [i16, w15]
    exact hT
  · show RB3 bl (σ'.1 11) (σ'.2.1 7)
    rw [i11, w7]
    exact hm
  · show PA bl (S 9) (σ'.1 19) (σ'.1 20) (σ'.2.1 21)
    rw [i19, i20, w21]
    exact hA
  · show RG3 hl cl su (σ'.1 12) (σ'.1 13) (σ'.1 14) (σ'.2.1 8) (σ'.2.1 9) (σ'.2.1 10)
    rw [i12, i13, i14, w8, w9, w10]
    exact hd3
  · show RS sl (σ'.1 23) (σ'.2.1 24) (σ'.2.1 25)
    rw [i23, w24, w25]
    exact s2
  · show PK (S 14) (S 15) (S 16) (σ'.2.1 32 0) (fun i => σ'.2.1 33 i) (σ'.2.1 36 0) (fun i => σ'.2.1 34 i) (fun i => σ'.2.1 35 i)
    rw [w32, w33, w34, w35, w36]
    exact hK0
  · show PK (S 17) (S 18) (S 19) (σ'.2.1 32 1) (fun i => σ'.2.1 33 (25 + i)) (σ'.2.1 36 1) (fun i => σ'.2.1 34 (6 + i)) (fun i => σ'.2.1 35 (6 + i))
    rw [w32, w33, w34, w35, w36]
    exact hK1
