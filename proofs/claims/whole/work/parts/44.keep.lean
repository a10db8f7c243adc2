/-! keep, again -/
theorem RB3_cong {bl : List B3} {n n' : Int32} {f g : Nat → Int32} (h : RB3 bl n f) (hl : bl.length ≤ 8) (hn : n' = n) (hf : ∀ i, i < 24 → g i = f i) : RB3 bl n' g := by
  refine ⟨hn.trans h.1, fun i q hq => ?_⟩
  have hi := (List.getElem?_eq_some_iff.mp hq).1
  rw [hf _ (by omega), hf _ (by omega), hf _ (by omega)]
  exact h.2 i q hq
theorem RS_cong {sl : List (Nat × Nat)} {n n' : Int32} {ft fc gt gc : Nat → Int32} (h : RS sl n ft fc) (hl : sl.length ≤ 6) (hn : n' = n) (h1 : ∀ i, i < 6 → gt i = ft i) (h2 : ∀ i, i < 6 → gc i = fc i) : RS sl n' gt gc := by
  refine ⟨hn.trans h.1, fun i q hq => ?_⟩
  have hi := (List.getElem?_eq_some_iff.mp hq).1
  rw [h1 _ (by omega), h2 _ (by omega)]
  exact h.2 i q hq
theorem PK_cong {σl σb σs : ST} {kept kept' : Int32} {body body' : Nat → Int32} {ns ns' : Int32} {ft ft' fc fc' : Nat → Int32} (h : PK σl σb σs kept body ns ft fc) (h1 : kept' = kept) (h2 : ∀ i, i < 25 → body' i = body i) (h3 : ns' = ns) (h4 : ∀ i, i < 6 → ft' i = ft i) (h5 : ∀ i, i < 6 → fc' i = fc i) : PK σl σb σs kept' body' ns' ft' fc' := by
  rcases h with ⟨a, b⟩ | ⟨a, b, bl, sl, c1, c2, c3, c4, c5, c6⟩
  · exact Or.inl ⟨a, h1.trans b⟩
  · exact Or.inr ⟨a, h1.trans b, bl, sl, c1, c2, RB3_cong c3 c1.1 (h2 24 (by omega)) (fun i hi => h2 i (by omega)), c4, c5, RS_cong c6 c4.1 h3 h4 h5⟩
theorem cpS_loop {F : Nat} {σo : ST} {N : Nat} (h6 : N ≤ 6) : ∀ (r n i : Nat) (σ : ST), σ.1 2 = nI N → i + r = N → r < n → ∃ σ', gX7_copyFrom_10 F σo n (nI i) σ = some (nI N, σ') ∧ σ'.1 = σ.1 ∧ (∀ j, σ'.2.1 0 j = if i ≤ j ∧ j < N then σo.2.1 0 j else σ.2.1 0 j) ∧ (∀ j, σ'.2.1 1 j = if i ≤ j ∧ j < N then σo.2.1 1 j else σ.2.1 1 j) := by
  intro r
  induction r with
  | zero =>
    intro n i σ hs hi hn
    obtain ⟨m, rfl⟩ : ∃ m, n = m + 1 := ⟨n - 1, by omega⟩
    have e : i = N := by omega
    subst e
    refine ⟨σ, ?_, rfl, fun j => by rw [if_neg (by omega)], fun j => by rw [if_neg (by omega)]⟩
    show gbX7_copyFrom_10 F σo _ (nI i) σ = _
    unfold gbX7_copyFrom_10
    rw [hs, if_pos (nI_le (Nat.le_refl _) (by omega))]
  | succ r ih =>
    intro n i σ hs hi hn
    obtain ⟨m, rfl⟩ : ∃ m, n = m + 1 := ⟨n - 1, by omega⟩
    obtain ⟨σ', h1, h2, h3, h4⟩ := ih m (i + 1) (sA (sA σ 0 i (σo.2.1 0 i)) 1 i (σo.2.1 1 i)) hs (by omega) (by omega)
    refine ⟨σ', ?_, h2, fun j => ?_, fun j => ?_⟩
    · show gbX7_copyFrom_10 F σo (gX7_copyFrom_10 F σo m) (nI i) σ = _
      unfold gbX7_copyFrom_10
      rw [hs, if_neg (nI_ge (by omega) (by omega)), if_neg (nI_in (show i < 6 by omega) (by omega)), nI_clamp (by omega), nI_1]
      exact h1
    · rw [h3]
      show _ = if i ≤ j ∧ j < N then _ else _
      have e : (sA (sA σ 0 i (σo.2.1 0 i)) 1 i (σo.2.1 1 i)).2.1 0 j = if j = i then σo.2.1 0 i else σ.2.1 0 j := rfl
      rw [e]
      by_cases h4 : i + 1 ≤ j ∧ j < N
      · rw [if_pos h4, if_pos (by omega)]
      · rw [if_neg h4]
        by_cases h5 : j = i
        · rw [if_pos h5, if_pos (by omega), h5]
        · rw [if_neg h5, if_neg (by omega)]
    · rw [h4]
      have e : (sA (sA σ 0 i (σo.2.1 0 i)) 1 i (σo.2.1 1 i)).2.1 1 j = if j = i then σo.2.1 1 i else σ.2.1 1 j := rfl
      rw [e]
      by_cases h4 : i + 1 ≤ j ∧ j < N
      · rw [if_pos h4, if_pos (by omega)]
      · rw [if_neg h4]
        by_cases h5 : j = i
        · rw [if_pos h5, if_pos (by omega), h5]
        · rw [if_neg h5, if_neg (by omega)]
theorem cpS {sl : List (Nat × Nat)} {σ σo : ST} (h : RS sl (σo.1 2) (σo.2.1 0) (σo.2.1 1)) (hn : sl.length ≤ 6) : ∃ σ', fX7_copyFrom FU σ σo = some σ' ∧ RS sl (σ'.1 2) (σ'.2.1 0) (σ'.2.1 1) := by
  obtain ⟨σ', h1, h2, h3, h4⟩ := cpS_loop (F := FU) (σo := σo) (N := sl.length) hn sl.length FU 0 (sI σ 2 (σo.1 2)) h.1 (by omega) (by unfold FU; omega)
  refine ⟨σ', ?_, by rw [h2]; exact h.1, fun i x hx => ?_⟩
  · unfold fX7_copyFrom
    rw [nm_go, show (0 : Int32) = nI 0 from rfl, h1]
    rfl
  · have hl := (List.getElem?_eq_some_iff.mp hx).1
    rw [h3, h4, if_pos (by omega), if_pos (by omega)]
    exact h.2 i x hx
/-- two rows written side by side -/
theorem sA_sW2 (σ : ST) {a b : Nat} (g h : Nat → Int32) (i : Nat) (v : Int32) (hab : a ≠ b) : sA (sW (sW σ a g) b h) a i v = sW (sW σ a (upd g i v)) b h := by
  unfold sA sW
  refine Prod.ext rfl (Prod.ext (funext fun j => ?_) rfl)
  dsimp only
  rw [if_neg hab, if_pos rfl]
  by_cases h1 : j = a
  · rw [if_pos h1, if_neg (fun e => hab (h1.symm.trans e)), if_pos h1]
  · rw [if_neg h1, if_neg h1, if_neg h1]
theorem m6 (k i : Nat) : (6 : Int32) * nI k + nI i = nI (6 * k + i) := by rw [show (6 : Int32) = nI 6 from rfl, pk_mul, nI_add]
theorem k21_loop {F k : Nat} (hk : k < 2) : ∀ (r n i : Nat) (σ : ST), i + r = 24 → r < n → gX11_keep_21 F (nI k) n (nI i) (sW σ 33 (va_cpy (σ.2.1 7) (σ.2.1 33) 0 (25 * k) i)) = some (nI 24, sW σ 33 (va_cpy (σ.2.1 7) (σ.2.1 33) 0 (25 * k) 24)) := by
  intro r
  induction r with
  | zero =>
    intro n i σ hi hn
    obtain ⟨m, rfl⟩ : ∃ m, n = m + 1 := ⟨n - 1, by omega⟩
    show gbX11_keep_21 F (nI k) _ (nI i) _ = _
    unfold gbX11_keep_21
    rw [if_pos (by rw [show i = 24 by omega]; decide), show i = 24 by omega]
  | succ r ih =>
    intro n i σ hi hn
    obtain ⟨m, rfl⟩ : ∃ m, n = m + 1 := ⟨n - 1, by omega⟩
    show gbX11_keep_21 F (nI k) (gX11_keep_21 F (nI k) m) (nI i) _ = _
    unfold gbX11_keep_21
    rw [show (24 : Int32) = nI 24 from rfl, if_neg (nI_ge (by omega) (by omega)), if_neg (nI_in (show i < 24 by omega) (by omega)), m25, if_neg (nI_in (show 25 * k + i < 50 by omega) (by omega)), nI_clamp (by omega), nI_clamp (by omega), nm_go, sA_sW, st_W2, if_neg (by decide), nI_1]
    have e := cpy_s (σ.2.1 7) (σ.2.1 33) 0 (25 * k) i
    rw [Nat.zero_add] at e
    rw [e]
    exact ih m (i + 1) σ (by omega) (by omega)
theorem k68_loop {F k : Nat} (hk : k < 2) : ∀ (r n i : Nat) (σ : ST), i + r = 6 → r < n → gX11_keep_68 F (nI k) n (nI i) (sW (sW σ 34 (va_cpy (σ.2.1 24) (σ.2.1 34) 0 (6 * k) i)) 35 (va_cpy (σ.2.1 25) (σ.2.1 35) 0 (6 * k) i)) = some (nI 6, sW (sW σ 34 (va_cpy (σ.2.1 24) (σ.2.1 34) 0 (6 * k) 6)) 35 (va_cpy (σ.2.1 25) (σ.2.1 35) 0 (6 * k) 6)) := by
  intro r
  induction r with
  | zero =>
    intro n i σ hi hn
    obtain ⟨m, rfl⟩ : ∃ m, n = m + 1 := ⟨n - 1, by omega⟩
    show gbX11_keep_68 F (nI k) _ (nI i) _ = _
    unfold gbX11_keep_68
    rw [if_pos (by rw [show i = 6 by omega]; decide), show i = 6 by omega]
  | succ r ih =>
    intro n i σ hi hn
    obtain ⟨m, rfl⟩ : ∃ m, n = m + 1 := ⟨n - 1, by omega⟩
    have e := cpy_s (σ.2.1 24) (σ.2.1 34) 0 (6 * k) i
    have e2 := cpy_s (σ.2.1 25) (σ.2.1 35) 0 (6 * k) i
    rw [Nat.zero_add] at e e2
    have f1 : ∀ g h : Nat → Int32, (sW (sW σ 34 g) 35 h).2.1 24 i = σ.2.1 24 i := fun _ _ => rfl
    have f2 : ∀ g h : Nat → Int32, (sW (sW σ 34 g) 35 h).2.1 25 i = σ.2.1 25 i := fun _ _ => rfl
    show gbX11_keep_68 F (nI k) (gX11_keep_68 F (nI k) m) (nI i) _ = _
    unfold gbX11_keep_68
    rw [if_neg (show ¬ (6 : Int32) ≤ nI i from nI_ge (a := i) (b := 6) (by omega) (by omega)), if_neg (nI_in (show i < 6 by omega) (by omega)), m6, if_neg (nI_in (show 6 * k + i < 12 by omega) (by omega)), nI_clamp (by omega), nI_clamp (by omega), nm_go, f1, sA_sW2 _ _ _ _ _ (by decide), nm_go, f2, sA_sW, e, e2, nI_1]
    exact ih m (i + 1) σ (by omega) (by omega)
def r33 (σ : ST) (k : Nat) : Nat → Int32 := upd (va_cpy (σ.2.1 7) (σ.2.1 33) 0 (25 * k) 24) (25 * k + 24) (σ.1 11)
def kS (σ : ST) (k : Nat) : ST := sW (sW (sW (sW (sW σ 32 (upd (σ.2.1 32) k 1)) 33 (r33 σ k)) 34 (va_cpy (σ.2.1 24) (σ.2.1 34) 0 (6 * k) 6)) 35 (va_cpy (σ.2.1 25) (σ.2.1 35) 0 (6 * k) 6)) 36 (upd (σ.2.1 36) k (σ.1 23))
theorem kpM {k : Nat} (σ : ST) (hk : k < 2) : fX11_keep FU σ (nI k) = some (σ.1 11, kS σ k) := by
  have h1 := k21_loop (F := FU) hk 24 FU 0 (sW σ 32 (upd (σ.2.1 32) k 1)) (by omega) (by unfold FU; omega)
  rw [cpy_0, sW_same] at h1
  have h1' : gX11_keep_21 FU (nI k) FU 0 (sW σ 32 (upd (σ.2.1 32) k 1)) = some (nI 24, sW (sW σ 32 (upd (σ.2.1 32) k 1)) 33 (va_cpy (σ.2.1 7) (σ.2.1 33) 0 (25 * k) 24)) := h1
  have h2 := k68_loop (F := FU) hk 6 FU 0 (sW (sW σ 32 (upd (σ.2.1 32) k 1)) 33 (r33 σ k)) (by omega) (by unfold FU; omega)
  rw [cpy_0, cpy_0] at h2
  have e5 : ∀ τ : ST, sW (sW τ 34 (τ.2.1 34)) 35 (τ.2.1 35) = τ := fun τ => by
    rw [sW_same τ 34, sW_same]
  rw [e5] at h2
  have h2' : gX11_keep_68 FU (nI k) FU 0 (sW (sW σ 32 (upd (σ.2.1 32) k 1)) 33 (r33 σ k)) = some (nI 6, sW (sW (sW (sW σ 32 (upd (σ.2.1 32) k 1)) 33 (r33 σ k)) 34 (va_cpy (σ.2.1 24) (σ.2.1 34) 0 (6 * k) 6)) 35 (va_cpy (σ.2.1 25) (σ.2.1 35) 0 (6 * k) 6)) := h2
  unfold fX11_keep
  rw [show (1 : Int64) = (nI 1).toInt64 from rfl, in_in (by omega) (by omega), bd_some, if1, if_neg (nI_in hk (by omega)), nI_clamp (by omega), show vp_nar .boolean (1 : Int32) = 1 from by decide, sA_eq, nm_go, h1', bd_some, show (24 : Int32) = nI 24 from rfl, m25, if_neg (nI_in (show 25 * k + 24 < 50 by omega) (by omega)), nI_clamp (by omega)]
  simp only [nm_go]
  rw [sA_sW]
  have e6 : upd (va_cpy (σ.2.1 7) (σ.2.1 33) 0 (25 * k) 24) (25 * k + 24) ((sW (sW σ 32 (upd (σ.2.1 32) k 1)) 33 (va_cpy (σ.2.1 7) (σ.2.1 33) 0 (25 * k) 24)).1 11) = r33 σ k := rfl
  rw [e6, h2', bd_some]
  rfl
theorem pk_new {bl : List B3} {sl : List (Nat × Nat)} {σl σb σs : ST} {kept : Int32} {body : Nat → Int32} {ns : Int32} {ft fc : Nat → Int32} {nb : Int32} {fb : Nat → Int32} {ns0 : Int32} {ft0 fc0 : Nat → Int32} (hv : vB bl) (hb : RB bl σb) (hm : RB3 bl nb fb) (hs : vS sl) (h1 : RS sl (σs.1 2) (σs.2.1 0) (σs.2.1 1)) (h2 : RS sl ns0 ft0 fc0) (hl : σl.1 2 = 1) (hk : kept = 1) (hb24 : body 24 = nb) (hbi : ∀ i, i < 24 → body i = fb i) (hn : ns = ns0) (hft : ∀ i, i < 6 → ft i = ft0 i) (hfc : ∀ i, i < 6 → fc i = fc0 i) : PK σl σb σs kept body ns ft fc :=
  Or.inr ⟨hl, hk, bl, sl, hv, hb, RB3_cong hm hv.1 hb24 hbi, hs, h1, RS_cong h2 hs.1 hn hft hfc⟩
theorem cpy_at {f g : Nat → Int32} {b n j : Nat} (h : j < n) : va_cpy f g 0 b n (b + j) = f j := by
  rw [cpy_in h, Nat.zero_add]
theorem r33_24 (σ : ST) (k : Nat) : r33 σ k (25 * k + 24) = σ.1 11 := by
  unfold r33 upd
  rw [if_pos rfl]
theorem r33_i (σ : ST) (k i : Nat) (h : i < 24) : r33 σ k (25 * k + i) = σ.2.1 7 i := by
  unfold r33 upd
  rw [if_neg (by omega), cpy_at h]
theorem r33_o (σ : ST) (k i : Nat) (h : i < 25 * k ∨ 25 * k + 25 ≤ i) : r33 σ k i = σ.2.1 33 i := by
  unfold r33 upd
  rw [if_neg (by omega), cpy_out (by omega)]
theorem st_keep : St_keep Inv := by
  intro S x1 hI
  obtain ⟨hT, ⟨bl, hv, hb, hm, hA⟩, hG, ⟨sl, hs, s1, s2⟩, hK0, hK1⟩ := id hI
  unfold fX10_keep
  rcases rng x1 2 (by omega) with ⟨k, hk, rfl⟩ | hx
  · have b1 := bel_in (F := FU) hk (by omega)
    have b1 : fX10_isBelow FU (nI k) 2 = some 1 := b1
    rw [b1, bd_some, if1, kpM (S 20) hk]
    rcases (show k = 0 ∨ k = 1 by omega) with rfl | rfl
    · obtain ⟨σb', c1, c2⟩ := cpB (σ := S 15) hb hv.1
      obtain ⟨σs', d1, d2⟩ := cpS (σ := S 16) s1 hs.1
      rw [if_pos (show nI 0 = (0 : Int32) from rfl), c1, bd_some, d1, bd_some, nm_go]
      refine ⟨_, _, rfl, rfl, ?_⟩
      refine ⟨hb.1.trans hm.1.symm, hT, ⟨bl, hv, hb, hm, hA⟩, hG, ⟨sl, hs, s1, s2⟩, ?_, ?_⟩
      · refine pk_new (bl := bl) (sl := sl) hv c2 hm hs d2 s2 rfl rfl ?_ (fun i hi => ?_) rfl (fun i hi => ?_) (fun i hi => ?_)
        · exact r33_24 (S 20) 0
        · have := r33_i (S 20) 0 i hi
          rw [Nat.mul_zero, Nat.zero_add] at this
          exact this
        · have := cpy_at (f := (S 20).2.1 24) (g := (S 20).2.1 34) (b := 6 * 0) hi
          rw [Nat.mul_zero, Nat.zero_add] at this
          exact this
        · have := cpy_at (f := (S 20).2.1 25) (g := (S 20).2.1 35) (b := 6 * 0) hi
          rw [Nat.mul_zero, Nat.zero_add] at this
          exact this
      · refine PK_cong hK1 rfl (fun i hi => ?_) rfl (fun i hi => ?_) (fun i hi => ?_)
        · exact r33_o (S 20) 0 (25 + i) (by omega)
        · exact cpy_out (f := (S 20).2.1 24) (g := (S 20).2.1 34) (a := 0) (b := 6 * 0) (n := 6) (j := 6 + i) (by omega)
        · exact cpy_out (f := (S 20).2.1 25) (g := (S 20).2.1 35) (a := 0) (b := 6 * 0) (n := 6) (j := 6 + i) (by omega)
    · obtain ⟨σb', c1, c2⟩ := cpB (σ := S 18) hb hv.1
      obtain ⟨σs', d1, d2⟩ := cpS (σ := S 19) s1 hs.1
      rw [if_neg (show ¬ nI 1 = (0 : Int32) by decide), if_pos (show nI 1 = (1 : Int32) from rfl), c1, bd_some, d1, bd_some, nm_go]
      refine ⟨_, _, rfl, rfl, ?_⟩
      refine ⟨hb.1.trans hm.1.symm, hT, ⟨bl, hv, hb, hm, hA⟩, hG, ⟨sl, hs, s1, s2⟩, ?_, ?_⟩
      · refine PK_cong hK0 rfl (fun i hi => ?_) rfl (fun i hi => ?_) (fun i hi => ?_)
        · exact r33_o (S 20) 1 i (by omega)
        · exact cpy_out (f := (S 20).2.1 24) (g := (S 20).2.1 34) (a := 0) (b := 6 * 1) (n := 6) (j := i) (by omega)
        · exact cpy_out (f := (S 20).2.1 25) (g := (S 20).2.1 35) (a := 0) (b := 6 * 1) (n := 6) (j := i) (by omega)
      · refine pk_new (bl := bl) (sl := sl) hv c2 hm hs d2 s2 rfl rfl ?_ (fun i hi => ?_) rfl (fun i hi => ?_) (fun i hi => ?_)
        · exact r33_24 (S 20) 1
        · exact r33_i (S 20) 1 i hi
        · exact cpy_at (f := (S 20).2.1 24) (g := (S 20).2.1 34) (b := 6 * 1) hi
        · exact cpy_at (f := (S 20).2.1 25) (g := (S 20).2.1 35) (b := 6 * 1) hi
  · have b1 := bel_out (F := FU) hx
    have b1 : fX10_isBelow FU x1 2 = some 0 := b1
    unfold fX11_keep
    rw [b1, show (1 : Int64) = (nI 1).toInt64 from rfl, in_out (by omega) hx, bd_some, bd_some, if0, if0]
    exact ⟨_, _, rfl, rfl, rfl, hI⟩
/-- back to what was kept -/
theorem a26_loop {F k : Nat} (hk : k < 2) : ∀ (r n i : Nat) (σ : ST), i + r = 24 → r < n → gX11_again_26 F (nI k) n (nI i) (sW σ 7 (va_cpy (σ.2.1 33) (σ.2.1 7) (25 * k) 0 i)) = some (nI 24, sW σ 7 (va_cpy (σ.2.1 33) (σ.2.1 7) (25 * k) 0 24)) := by
  intro r
  induction r with
  | zero =>
    intro n i σ hi hn
    obtain ⟨m, rfl⟩ : ∃ m, n = m + 1 := ⟨n - 1, by omega⟩
    show gbX11_again_26 F (nI k) _ (nI i) _ = _
    unfold gbX11_again_26
    rw [if_pos (by rw [show i = 24 by omega]; decide), show i = 24 by omega]
  | succ r ih =>
    intro n i σ hi hn
    obtain ⟨m, rfl⟩ : ∃ m, n = m + 1 := ⟨n - 1, by omega⟩
    show gbX11_again_26 F (nI k) (gX11_again_26 F (nI k) m) (nI i) _ = _
    unfold gbX11_again_26
    rw [show (24 : Int32) = nI 24 from rfl, if_neg (nI_ge (by omega) (by omega)), m25, if_neg (nI_in (show 25 * k + i < 50 by omega) (by omega)), if_neg (nI_in (show i < 24 by omega) (by omega)), nI_clamp (by omega), nI_clamp (by omega), nm_go, sA_sW, st_W2, if_neg (by decide), nI_1]
    have e := cpy_s (σ.2.1 33) (σ.2.1 7) (25 * k) 0 i
    rw [Nat.zero_add] at e
    rw [e]
    exact ih m (i + 1) σ (by omega) (by omega)
theorem a73_loop {F k : Nat} (hk : k < 2) : ∀ (r n i : Nat) (σ : ST), i + r = 6 → r < n → gX11_again_73 F (nI k) n (nI i) (sW (sW σ 24 (va_cpy (σ.2.1 34) (σ.2.1 24) (6 * k) 0 i)) 25 (va_cpy (σ.2.1 35) (σ.2.1 25) (6 * k) 0 i)) = some (nI 6, sW (sW σ 24 (va_cpy (σ.2.1 34) (σ.2.1 24) (6 * k) 0 6)) 25 (va_cpy (σ.2.1 35) (σ.2.1 25) (6 * k) 0 6)) := by
  intro r
  induction r with
  | zero =>
    intro n i σ hi hn
    obtain ⟨m, rfl⟩ : ∃ m, n = m + 1 := ⟨n - 1, by omega⟩
    show gbX11_again_73 F (nI k) _ (nI i) _ = _
    unfold gbX11_again_73
    rw [if_pos (by rw [show i = 6 by omega]; decide), show i = 6 by omega]
  | succ r ih =>
    intro n i σ hi hn
    obtain ⟨m, rfl⟩ : ∃ m, n = m + 1 := ⟨n - 1, by omega⟩
    have e := cpy_s (σ.2.1 34) (σ.2.1 24) (6 * k) 0 i
    have e2 := cpy_s (σ.2.1 35) (σ.2.1 25) (6 * k) 0 i
    rw [Nat.zero_add] at e e2
    have f1 : ∀ (g h : Nat → Int32) (j : Nat), (sW (sW σ 24 g) 25 h).2.1 34 j = σ.2.1 34 j := fun _ _ _ => rfl
    have f2 : ∀ (g h : Nat → Int32) (j : Nat), (sW (sW σ 24 g) 25 h).2.1 35 j = σ.2.1 35 j := fun _ _ _ => rfl
    show gbX11_again_73 F (nI k) (gX11_again_73 F (nI k) m) (nI i) _ = _
    unfold gbX11_again_73
    rw [if_neg (show ¬ (6 : Int32) ≤ nI i from nI_ge (a := i) (b := 6) (by omega) (by omega)), m6, if_neg (nI_in (show 6 * k + i < 12 by omega) (by omega)), if_neg (nI_in (show i < 6 by omega) (by omega)), nI_clamp (by omega), nI_clamp (by omega), nm_go, f1, sA_sW2 _ _ _ _ _ (by decide), nm_go, f2, sA_sW, e, e2, nI_1]
    exact ih m (i + 1) σ (by omega) (by omega)
def aS (σ : ST) (k : Nat) : ST := sI (sI (sW (sW (sI (sW σ 7 (va_cpy (σ.2.1 33) (σ.2.1 7) (25 * k) 0 24)) 11 (σ.2.1 33 (25 * k + 24))) 24 (va_cpy (σ.2.1 34) (σ.2.1 24) (6 * k) 0 6)) 25 (va_cpy (σ.2.1 35) (σ.2.1 25) (6 * k) 0 6)) 23 (σ.2.1 36 k)) 19 0
theorem agM {k : Nat} (σ : ST) (hk : k < 2) (h0 : ¬ σ.2.1 32 k = 0) : fX11_again FU σ (nI k) = some (σ.2.1 33 (25 * k + 24), aS σ k) := by
  have h1 := a26_loop (F := FU) hk 24 FU 0 σ (by omega) (by unfold FU; omega)
  rw [cpy_0, sW_same] at h1
  have h1' : gX11_again_26 FU (nI k) FU 0 σ = some (nI 24, sW σ 7 (va_cpy (σ.2.1 33) (σ.2.1 7) (25 * k) 0 24)) := h1
  have h2 := a73_loop (F := FU) hk 6 FU 0 (sI (sW σ 7 (va_cpy (σ.2.1 33) (σ.2.1 7) (25 * k) 0 24)) 11 (σ.2.1 33 (25 * k + 24))) (by omega) (by unfold FU; omega)
  rw [cpy_0, cpy_0] at h2
  have e5 : ∀ τ : ST, sW (sW τ 24 (τ.2.1 24)) 25 (τ.2.1 25) = τ := fun τ => by
    rw [sW_same τ 24, sW_same]
  rw [e5] at h2
  have h2' : gX11_again_73 FU (nI k) FU 0 (sI (sW σ 7 (va_cpy (σ.2.1 33) (σ.2.1 7) (25 * k) 0 24)) 11 (σ.2.1 33 (25 * k + 24))) = some (nI 6, sW (sW (sI (sW σ 7 (va_cpy (σ.2.1 33) (σ.2.1 7) (25 * k) 0 24)) 11 (σ.2.1 33 (25 * k + 24))) 24 (va_cpy (σ.2.1 34) (σ.2.1 24) (6 * k) 0 6)) 25 (va_cpy (σ.2.1 35) (σ.2.1 25) (6 * k) 0 6)) := h2
  unfold fX11_again
  rw [show (1 : Int64) = (nI 1).toInt64 from rfl, in_in (by omega) (by omega), bd_some, if1, if_neg (nI_in hk (by omega)), nI_clamp (by omega), if_neg h0, h1', bd_some, show (24 : Int32) = nI 24 from rfl, m25, if_neg (nI_in (show 25 * k + 24 < 50 by omega) (by omega)), nI_clamp (by omega)]
  simp only [nm_go]
  have e6 : sI (sW σ 7 (va_cpy (σ.2.1 33) (σ.2.1 7) (25 * k) 0 24)) 11 ((sW σ 7 (va_cpy (σ.2.1 33) (σ.2.1 7) (25 * k) 0 24)).2.1 33 (25 * k + 24)) = sI (sW σ 7 (va_cpy (σ.2.1 33) (σ.2.1 7) (25 * k) 0 24)) 11 (σ.2.1 33 (25 * k + 24)) := rfl
  rw [e6, h2', bd_some]
  rfl
theorem agP {bl' : List B3} {σ σa : ST} {hs : List (List B3)} (h : RAm hs (σ.1 19) (σ.1 20) (σ.2.1 21)) : PA bl' (sI (sI σa 5 0) 6 0) 0 (σ.1 20) (σ.2.1 21) := by
  obtain ⟨k, hk, -, -, h20, -⟩ := h
  exact ⟨[], [], trivial, ⟨0, by omega, by simp, rfl, rfl, fun j a h => by simp at h⟩, k, hk, by simp, rfl, h20, fun j a h => by simp at h⟩
theorem cpy_ta {f g : Nat → Int32} {a n j : Nat} (h : j < n) : va_cpy f g a 0 n j = f (a + j) := by
  have := cpy_in (f := f) (g := g) (a := a) (b := 0) h
  rw [Nat.zero_add] at this
  exact this
theorem st_again : St_again Inv := by
  intro S x1 hI
  obtain ⟨hT, ⟨bl, hv, hb, hm, ⟨al, hs, -, -, hAm⟩⟩, hG, hS, hK0, hK1⟩ := id hI
  unfold fX10_again
  rcases rng x1 2 (by omega) with ⟨k, hk, rfl⟩ | hx
  · have b1 := bel_in (F := FU) hk (by omega)
    have b1 : fX10_isBelow FU (nI k) 2 = some 1 := b1
    rw [b1, bd_some, if1]
    rcases (show k = 0 ∨ k = 1 by omega) with rfl | rfl
    · rw [if_pos (show nI 0 = (0 : Int32) from rfl)]
      rcases id hK0 with ⟨a, b⟩ | ⟨a, b, bl', sl', c1, c2, c3, c4, c5, c6⟩
      · unfold fX11_again
        rw [if_pos a, show (1 : Int64) = (nI 1).toInt64 from rfl, in_in (by omega) (by omega), bd_some, if1, if_neg (nI_in hk (by omega)), nI_clamp (by omega), if_pos b]
        exact ⟨_, _, rfl, rfl, rfl, hI⟩
      · rw [if_neg (by rw [a]; decide), agM (S 20) hk (by rw [b]; decide)]
        obtain ⟨σb', d1, d2⟩ := cpB (σ := S 7) c2 c1.1
        obtain ⟨σs', e1, e2⟩ := cpS (σ := S 11) c5 c4.1
        rw [d1, bd_some, e1, bd_some]
        refine ⟨_, _, rfl, rfl, ?_⟩
        refine ⟨d2.1.trans c3.1.symm, hT, ⟨bl', c1, d2, RB3_cong c3 c1.1 rfl (fun i hi => ?_), agP (σ := S 20) hAm⟩, hG, ⟨sl', c4, e2, RS_cong c6 c4.1 rfl (fun i hi => ?_) (fun i hi => ?_)⟩, hK0, hK1⟩
        · have := cpy_ta (f := (S 20).2.1 33) (g := (S 20).2.1 7) (a := 25 * 0) hi
          rw [show 25 * 0 + i = i by omega] at this
          exact this
        · have := cpy_ta (f := (S 20).2.1 34) (g := (S 20).2.1 24) (a := 6 * 0) hi
          rw [show 6 * 0 + i = i by omega] at this
          exact this
        · have := cpy_ta (f := (S 20).2.1 35) (g := (S 20).2.1 25) (a := 6 * 0) hi
          rw [show 6 * 0 + i = i by omega] at this
          exact this
    · rw [if_neg (show ¬ nI 1 = (0 : Int32) by decide), if_pos (show nI 1 = (1 : Int32) from rfl)]
      rcases id hK1 with ⟨a, b⟩ | ⟨a, b, bl', sl', c1, c2, c3, c4, c5, c6⟩
      · unfold fX11_again
        rw [if_pos a, show (1 : Int64) = (nI 1).toInt64 from rfl, in_in (by omega) (by omega), bd_some, if1, if_neg (nI_in hk (by omega)), nI_clamp (by omega), if_pos b]
        exact ⟨_, _, rfl, rfl, rfl, hI⟩
      · rw [if_neg (by rw [a]; decide), agM (S 20) hk (by rw [b]; decide)]
        obtain ⟨σb', d1, d2⟩ := cpB (σ := S 7) c2 c1.1
        obtain ⟨σs', e1, e2⟩ := cpS (σ := S 11) c5 c4.1
        rw [d1, bd_some, e1, bd_some]
        refine ⟨_, _, rfl, rfl, ?_⟩
        refine ⟨d2.1.trans c3.1.symm, hT, ⟨bl', c1, d2, RB3_cong c3 c1.1 rfl (fun i hi => ?_), agP (σ := S 20) hAm⟩, hG, ⟨sl', c4, e2, RS_cong c6 c4.1 rfl (fun i hi => ?_) (fun i hi => ?_)⟩, hK0, hK1⟩
        · exact cpy_ta (f := (S 20).2.1 33) (g := (S 20).2.1 7) (a := 25 * 1) hi
        · exact cpy_ta (f := (S 20).2.1 34) (g := (S 20).2.1 24) (a := 6 * 1) hi
        · exact cpy_ta (f := (S 20).2.1 35) (g := (S 20).2.1 25) (a := 6 * 1) hi
  · have b1 := bel_out (F := FU) hx
    have b1 : fX10_isBelow FU x1 2 = some 0 := b1
    unfold fX11_again
    rw [b1, show (1 : Int64) = (nI 1).toInt64 from rfl, in_out (by omega) hx, bd_some, bd_some, if0, if0]
    exact ⟨_, _, rfl, rfl, rfl, hI⟩
