/-! runs, run, counted, best -/
theorem lay_loop {t j : Nat} {bl : List B3} {hl cl : List H4} {su : Nat → Option Nat} {σ : ST} {q : H4} (hv : vB bl) (hb : RB3 bl (σ.1 11) (σ.2.1 7)) (hg : vG hl cl su) (hd : RG3 hl cl su (σ.1 12) (σ.1 13) (σ.1 14) (σ.2.1 8) (σ.2.1 9) (σ.2.1 10)) (ht : t < 16) (hq : hl[j]? = some q) (ho : okH q) : ∀ (r n y : Nat) (base : List B3) (f : Nat → Int32) (v3 : Int32), y + r = q.2.2.2 + 1 → r < n → q.2.2.1 ≤ y → RB3 base v3 f → base.length + (rl (rowR bl q cl su t) y r).length ≤ 30 → ∃ (f' : Nat → Int32) (v3' v5' : Int32), gX11_layRuns_37 FU (nI j) (nI t) (btI q.1 q.2.1) n v3 (nI y) (sW σ 22 f) = some (v3', v5', sW σ 22 f') ∧ RB3 (base ++ rl (rowR bl q cl su t) y r) v3' f' := by
  have hj := (List.getElem?_eq_some_iff.mp hq).1
  have h3 := hg.1
  obtain ⟨a0, a1, a2, a3⟩ := hd.1.2 j q hq
  have e8 : ∀ (f : Nat → Int32) (k : Nat), (sW σ 22 f).2.1 8 k = σ.2.1 8 k := fun _ _ => rfl
  intro r
  induction r with
  | zero =>
    intro n y base f v3 hi hn hy h hl
    obtain ⟨m, rfl⟩ : ∃ m, n = m + 1 := ⟨n - 1, by omega⟩
    have o4 := ho.2.2.2
    refine ⟨f, v3, nI y, ?_, by simpa [rl] using h⟩
    show gbX11_layRuns_37 FU (nI j) (nI t) (btI q.1 q.2.1) _ v3 (nI y) (sW σ 22 f) = _
    unfold gbX11_layRuns_37
    rw [m43, if_neg (nI_in (show 4 * j + 3 < 12 by omega) (by omega)), nI_clamp (by omega), e8, a3, if_pos (nI_lt (by omega) (by omega))]
  | succ r ih =>
    intro n y base f v3 hi hn hy h hl
    obtain ⟨m, rfl⟩ : ∃ m, n = m + 1 := ⟨n - 1, by omega⟩
    have o4 := ho.2.2.2
    have e : gX11_layRuns_37 FU (nI j) (nI t) (btI q.1 q.2.1) (m + 1) v3 (nI y) (sW σ 22 f) = gbX11_layRuns_37 FU (nI j) (nI t) (btI q.1 q.2.1) (gX11_layRuns_37 FU (nI j) (nI t) (btI q.1 q.2.1) m) v3 (nI y) (sW σ 22 f) := rfl
    rw [rl, List.length_append] at hl
    have hc := ce_n (bl := bl) (cl := cl) (su := su) (t := t) (y := y) ho
    have hsame := runs_same ⟨_, hc.2⟩
    have hr : (rowR bl q cl su t y).length = (mR (ceN bl q cl su t y) 10 0 []).length := by
      unfold rowR
      rw [List.length_map, ← hsame, List.length_reverse]
    have ec : drkS bl cl su t y &&& btI q.1 q.2.1 = nI (ceN bl q cl su t y) := by
      rw [← hc.1]
      unfold ce vwS
      rw [if_pos ⟨hy, by omega⟩, Int32.and_comm]
    obtain ⟨f1, v1, g1, g2⟩ := lr_loop (F := FU) (y := y) (v1 := nI j) (v2 := nI t) (v4 := btI q.1 q.2.1) hc.2 10 FU 0 base [] v3 σ f (by omega) (by unfold FU; omega) (fun h => absurd h (by omega)) (by simpa using h) (by omega)
    rw [hsame] at g2
    have g2 : RB3 (base ++ rowR bl q cl su t y) v1 f1 := g2
    rw [show nI 0 = (0 : Int32) from rfl] at g1
    obtain ⟨f2, v2, v5, k1, k2⟩ := ih m (y + 1) _ f1 v1 (by omega) (by omega) (by omega) g2 (by rw [List.length_append]; omega)
    have hdk := darkM (σ := sW σ 22 f) (t := t) (y := y) hv hb hg hd ht (by omega)
    refine ⟨f2, v2, v5, ?_, by rw [rl, ← List.append_assoc]; exact k2⟩
    rw [e]
    unfold gbX11_layRuns_37
    rw [m43, if_neg (nI_in (show 4 * j + 3 < 12 by omega) (by omega)), nI_clamp (by omega), e8, a3, if_neg (nI_nlt (by omega) (by omega)), hdk, bd_some, ec, g1, bd_some, nI_1]
    exact k1
theorem lay {t j : Nat} {bl : List B3} {hl cl : List H4} {su : Nat → Option Nat} {σ : ST} {q : H4} (hv : vB bl) (hb : RB3 bl (σ.1 11) (σ.2.1 7)) (hg : vG hl cl su) (hd : RG3 hl cl su (σ.1 12) (σ.1 13) (σ.1 14) (σ.2.1 8) (σ.2.1 9) (σ.2.1 10)) (ht : t < 16) (hq : hl[j]? = some q) : ∃ f : Nat → Int32, fX11_layRuns FU σ (nI j) (nI t) = some (nI (rnL bl q cl su t).length, sW σ 22 f) ∧ RB3 (rnL bl q cl su t) (nI (rnL bl q cl su t).length) f := by
  have ho := hg.2.1 q (List.mem_of_getElem? hq)
  have hj := (List.getElem?_eq_some_iff.mp hq).1
  have h3 := hg.1
  obtain ⟨a0, a1, a2, a3⟩ := hd.1.2 j q hq
  have hlen := rn_len (bl := bl) (cl := cl) (su := su) (t := t) ho
  have hp := rn_part (bl := bl) (cl := cl) (su := su) (t := t) ho
  obtain ⟨f, v3, v5, h1, h2⟩ := lay_loop hv hb hg hd ht hq ho (q.2.2.2 + 1 - q.2.2.1) FU q.2.2.1 [] (σ.2.1 22) 0 (by have := ho.2.2.1; omega) (by have := ho.2.2.2; unfold FU; omega) (Nat.le_refl _) ⟨rfl, fun i q h => by simp at h⟩ (by rw [← hp]; simpa using hlen)
  rw [List.nil_append, ← hp] at h2
  rw [sW_same] at h1
  have hv3 := h2.1
  subst hv3
  refine ⟨f, ?_, h2⟩
  unfold fX11_layRuns
  rw [m41, m42, m40, if_neg (nI_in (show 4 * j < 12 by omega) (by omega)), if_neg (nI_in (show 4 * j + 1 < 12 by omega) (by omega)), nI_clamp (show 4 * j < 2 ^ 31 by omega), nI_clamp (show 4 * j + 1 < 2 ^ 31 by omega), a0, a1, bitsM, bd_some, if_neg (nI_in (show 4 * j + 2 < 12 by omega) (by omega)), nI_clamp (show 4 * j + 2 < 2 ^ 31 by omega), a2, h1]
  rfl
theorem inv_rr {S : SS} {σ : ST} {f : Nat → Int32} (h : Inv S) : Inv (uS (uS S 10 σ) 20 (sW (S 20) 22 f)) := h
theorem inv_rs {S : SS} (h : Inv S) : Inv (uS (uS S 10 (S 10)) 20 (S 20)) := h
theorem st_runs : St_runs Inv := by
  intro S x1 x2 hI
  obtain ⟨-, ⟨bl, hv, hb, hm, -⟩, ⟨hl, cl, su, hg, hd, hd3⟩, -⟩ := id hI
  unfold fX10_runs fX11_runs
  rcases rng x1 hl.length (by have := hg.1; omega) with ⟨j, hj, rfl⟩ | hx
  · obtain ⟨q, hq, -⟩ := at_get hj
    rw [hh_in hd.1.1 hg.1 hj, ish_in hd3.1.1 hg.1 hj, bd_some, bd_some, if1, if1]
    rcases rng x2 16 (by omega) with ⟨t, ht, rfl⟩ | hx
    · obtain ⟨σ', h1, h2⟩ := look (S 10) hv hb hg hd ht hq
      obtain ⟨f, h3, h4⟩ := lay hv hm hg hd3 ht hq
      rw [(min_in ht).1, (min_in ht).2, bd_some, bd_some, if1, if1, h1, h3]
      exact ⟨_, _, rfl, rfl, h2.1, inv_rr hI⟩
    · rw [(min_out hx).1, (min_out hx).2]
      exact ⟨_, _, rfl, rfl, rfl, inv_rs hI⟩
  · rw [hh_out hd.1.1 hx, ish_out hd3.1.1 hg.1 hx]
    exact ⟨_, _, rfl, rfl, rfl, inv_rs hI⟩
theorem st_run : St_run Inv := by
  intro S x1 x2 x3 x4 hI
  obtain ⟨-, ⟨bl, hv, hb, hm, -⟩, ⟨hl, cl, su, hg, hd, hd3⟩, -⟩ := id hI
  unfold fX10_run fX11_run
  rcases rng x1 hl.length (by have := hg.1; omega) with ⟨j, hj, rfl⟩ | hx
  · obtain ⟨q, hq, hqm⟩ := at_get hj
    rw [hh_in hd.1.1 hg.1 hj, ish_in hd3.1.1 hg.1 hj, bd_some, bd_some, if1, if1]
    rcases rng x2 16 (by omega) with ⟨t, ht, rfl⟩ | hx
    · have hlen := rn_len (bl := bl) (cl := cl) (su := su) (q := q) (t := t) (hg.2.1 q hqm)
      obtain ⟨σ', h1, h2⟩ := look (S 10) hv hb hg hd ht hq
      obtain ⟨f, h3, h4⟩ := lay hv hm hg hd3 ht hq
      rw [(min_in ht).1, (min_in ht).2, bd_some, bd_some, if1, if1, show (2 : Int64) = (nI 2).toInt64 from rfl]
      have e3 : (3 : Int32) = nI 3 := rfl
      rcases rng x4 3 (by omega) with ⟨k, hk, rfl⟩ | hx
      · have b1 := bel_in (F := FU) hk (by omega)
        rw [← e3] at b1
        rw [b1, in_in (by omega) (by omega), bd_some, bd_some, if1, if1, h1, h3, bd_some, bd_some, h2.1]
        have e22 : (sW (S 20) 22 f).2.1 22 = f := rfl
        simp only []
        rcases rng x3 (rnL bl q cl su t).length (by omega) with ⟨i, hi, rfl⟩ | hx
        · obtain ⟨p, hp, -⟩ := at_get hi
          obtain ⟨c0, c1, c2⟩ := h2.2 i p hp
          obtain ⟨d0, d1, d2⟩ := h4.2 i p hp
          rw [bel_in hi (by omega), inm_in hi (by omega), bd_some, bd_some, if1, if1, m3, if_neg (nI_in (show i < 30 by omega) (by omega)), nI_clamp (show i < 2 ^ 31 by omega), if_neg (nI_in (show 3 * i + k < 90 by omega) (by omega)), nI_clamp (show 3 * i + k < 2 ^ 31 by omega), e22]
          rcases (show k = 0 ∨ k = 1 ∨ k = 2 by omega) with rfl | rfl | rfl
          · rw [if_pos (show nI 0 = (0 : Int32) from rfl)]
            exact ⟨_, _, rfl, rfl, c0.trans d0.symm, inv_rr hI⟩
          · rw [if_neg (show ¬ nI 1 = (0 : Int32) by decide), if_pos (show nI 1 = (1 : Int32) from rfl), if_neg (ckd (show i < 30 by omega) (by omega))]
            exact ⟨_, _, rfl, rfl, c1.trans d1.symm, inv_rr hI⟩
          · rw [if_neg (show ¬ nI 2 = (0 : Int32) by decide), if_neg (show ¬ nI 2 = (1 : Int32) by decide), if_neg (ckd (show i < 30 by omega) (by omega))]
            exact ⟨_, _, rfl, rfl, c2.trans d2.symm, inv_rr hI⟩
        · rw [bel_out hx, inm_out (by omega) hx, bd_some, bd_some, if0, if0]
          exact ⟨_, _, rfl, rfl, rfl, inv_rr hI⟩
      · have b1 := bel_out (F := FU) hx
        rw [← e3] at b1
        rw [b1, in_out (by omega) hx]
        exact ⟨_, _, rfl, rfl, rfl, inv_rs hI⟩
    · rw [(min_out hx).1, (min_out hx).2]
      exact ⟨_, _, rfl, rfl, rfl, inv_rs hI⟩
  · rw [hh_out hd.1.1 hx, ish_out hd3.1.1 hg.1 hx]
    exact ⟨_, _, rfl, rfl, rfl, inv_rs hI⟩
/-- heads by the rule -/
def hR (l u : Int32) : Int32 := if u ≤ 0 then 1 else if u < l then (if 2 * (l - l / u * u) ≤ u then l / u + 0 else l / u + 1) else 1
theorem hRC (F : Nat) (l u : Int32) : fX6_headsOfRun F l u = some (hR l u) := by
  unfold fX6_headsOfRun hR
  by_cases h1 : u ≤ 0
  · rw [if_pos h1, if_pos h1]
  · rw [if_neg h1, if_neg h1]
    have h0 : ¬ u = 0 := fun h => h1 (by rw [h]; decide)
    by_cases h2 : u < l
    · rw [if_pos h2, if_pos h2, if_neg h0]
      by_cases h3 : 2 * (l - l / u * u) ≤ u
      · rw [if_pos h3, if_pos h3]
      · rw [if_neg h3, if_neg h3]
    · rw [if_neg h2, if_neg h2]
def hS (l : List B3) (u a : Int32) : Int32 := l.foldl (fun a q => a + hR (nI q.2.2) u) a
theorem hS_drop {l : List B3} {u a : Int32} {i : Nat} {q : B3} (hq : l[i]? = some q) : hS (l.drop i) u a = hS (l.drop (i + 1)) u (a + hR (nI q.2.2) u) := by
  obtain ⟨h1, h2⟩ := List.getElem?_eq_some_iff.mp hq
  unfold hS
  rw [List.drop_eq_getElem_cons h1, List.foldl_cons, h2]
theorem hC_loop {F : Nat} {l : List B3} {σ : ST} {u : Int32} (h : RB l σ) (hl : l.length ≤ 30) : ∀ (r n i : Nat) (a : Int32), i + r = l.length → r < n → gX6_headsByRule_4 F σ u n a (nI i) = some (hS (l.drop i) u a, nI l.length) := by
  intro r
  induction r with
  | zero =>
    intro n i v hi hn2
    obtain ⟨m, rfl⟩ : ∃ m, n = m + 1 := ⟨n - 1, by omega⟩
    show gbX6_headsByRule_4 F σ u _ v (nI i) = _
    unfold gbX6_headsByRule_4
    rw [h.1, if_pos (nI_le (by omega) (by omega)), List.drop_eq_nil_of_le (by omega), show i = l.length by omega]
    rfl
  | succ r ih =>
    intro n i v hi hn2
    obtain ⟨m, rfl⟩ : ∃ m, n = m + 1 := ⟨n - 1, by omega⟩
    obtain ⟨q, hq, hqm⟩ := at_get (show i < l.length by omega)
    show gbX6_headsByRule_4 F σ u (gX6_headsByRule_4 F σ u m) v (nI i) = _
    unfold gbX6_headsByRule_4
    rw [h.1, if_neg (nI_ge (by omega) (by omega)), if_neg (nI_in (show i < 30 by omega) (by omega)), nI_clamp (by omega), (h.2 i q hq).2.2, hRC, bd_some, nI_1, ih m (i + 1) _ (by omega) (by omega), hS_drop hq]
theorem hMM_loop {F : Nat} {l : List B3} {σ : ST} {v1 v2 u : Int32} (h : RB3 l (nI l.length) (σ.2.1 22)) (hl : l.length ≤ 30) (hu : ¬ u ≤ 0 ∨ l = []) : ∀ (r n i : Nat) (a : Int32), i + r = l.length → r < n → gX11_countedOf_21 F σ v1 v2 (nI l.length) u n a (nI i) = some (hS (l.drop i) u a, nI l.length) := by
  intro r
  induction r with
  | zero =>
    intro n i v hi hn2
    obtain ⟨m, rfl⟩ : ∃ m, n = m + 1 := ⟨n - 1, by omega⟩
    show gbX11_countedOf_21 F σ v1 v2 (nI l.length) u _ v (nI i) = _
    unfold gbX11_countedOf_21
    rw [if_pos (nI_le (by omega) (by omega)), List.drop_eq_nil_of_le (by omega), show i = l.length by omega]
    rfl
  | succ r ih =>
    intro n i v hi hn2
    obtain ⟨m, rfl⟩ : ∃ m, n = m + 1 := ⟨n - 1, by omega⟩
    obtain ⟨q, hq, hqm⟩ := at_get (show i < l.length by omega)
    have hu : ¬ u ≤ 0 := hu.resolve_right (fun e => by rw [e] at hi; simp at hi)
    have h0 : ¬ u = 0 := fun h => hu (by rw [h]; decide)
    show gbX11_countedOf_21 F σ v1 v2 (nI l.length) u (gX11_countedOf_21 F σ v1 v2 (nI l.length) u m) v (nI i) = _
    unfold gbX11_countedOf_21
    rw [if_neg (nI_ge (by omega) (by omega)), m32, if_neg (nI_in (show 3 * i + 2 < 90 by omega) (by omega)), nI_clamp (by omega), (h.2 i q hq).2.2, nI_1, hS_drop hq, if_neg h0]
    have eh : hR (nI q.2.2) u = if u < nI q.2.2 then (if 2 * (nI q.2.2 - nI q.2.2 / u * u) ≤ u then nI q.2.2 / u + 0 else nI q.2.2 / u + 1) else 1 := by
      unfold hR
      rw [if_neg hu]
    rw [eh]
    by_cases h2 : u < nI q.2.2
    · rw [if_pos h2, if_pos h2]
      by_cases h3 : 2 * (nI q.2.2 - nI q.2.2 / u * u) ≤ u
      · rw [if_pos h3, if_pos h3, nm_go, ih m (i + 1) _ (by omega) (by omega)]
      · rw [if_neg h3, if_neg h3, nm_go, ih m (i + 1) _ (by omega) (by omega)]
    · rw [if_neg h2, if_neg h2, ih m (i + 1) _ (by omega) (by omega)]
/-- how long a man's shadow is -/
def uS6 (t : Nat) : Int32 := (fX10_lengthOfShadow 0 6 (nI t)).getD 0
theorem uC : ∀ t : Fin 16, fX10_lengthOfShadow FU (hgtI (0 : Int32).toNatClampNeg) (nI t.1) = some (uS6 t.1) ∧ fX11_longAt FU 6 (nI t.1) = some (uS6 t.1) ∧ (uS6 t.1 ≤ 0 → t.1 = 8) := by decide +kernel
theorem rC8 : ∀ k : Fin 6, ∀ x : Fin 10, rC (hgtI k.1) x.1 8 = 0 := by decide +kernel
theorem dk8 (y : Nat) : ∀ (l : List B3), (∀ q ∈ l, okB q) → dkS l 8 y 0 = 0
  | [], _ => rfl
  | q :: l, h => by
    obtain ⟨o0, o1, -⟩ := h q List.mem_cons_self
    have e : dkS (q :: l) 8 y 0 = dkS l 8 y (if q.2.2 = y then 0 ||| rC (hgtI q.1) q.2.1 8 else 0) := rfl
    rw [e, rC8 ⟨q.1, o0⟩ ⟨q.2.1, o1⟩, ior0]
    simp only [ite_self]
    exact dk8 y l (fun p hp => h p (List.mem_cons_of_mem _ hp))
theorem rn8 {bl : List B3} {q : H4} {cl : List H4} {su : Nat → Option Nat} (hv : vB bl) : rnL bl q cl su 8 = [] := by
  refine rl_nil _ 6 0 (fun k _ _ => ?_)
  unfold rowR ceN ce drkS
  rw [dk8 k bl hv.2, iand0, iand_0]
  rfl
def cnI (bl : List B3) (q : H4) (cl : List H4) (su : Nat → Option Nat) (t : Nat) : Int32 := hS (rnL bl q cl su t) (uS6 t) 0
theorem cntC {t j : Nat} {bl : List B3} {hl cl : List H4} {su : Nat → Option Nat} {σb σd : ST} {q : H4} (σr : ST) (hv : vB bl) (hb : RB bl σb) (hg : vG hl cl su) (hd : RG hl cl su σd) (ht : t < 16) (hq : hl[j]? = some q) : ∃ σ', fX10_countByRule FU σb σd σr (nI j) (nI t) = some (cnI bl q cl su t, σ') := by
  have ho := hg.2.1 q (List.mem_of_getElem? hq)
  have hlen := rn_len (bl := bl) (cl := cl) (su := su) (t := t) ho
  obtain ⟨σ', h1, h2⟩ := look σr hv hb hg hd ht hq
  have h3 := hC_loop (F := FU) (u := uS6 t) h2 hlen _ FU 0 0 (Nat.zero_add _) (by unfold FU; omega)
  rw [List.drop_zero, show nI 0 = (0 : Int32) from rfl] at h3
  refine ⟨σ', ?_⟩
  unfold fX10_countByRule fX6_headsByRule
  rw [h1, bd_some, (uC ⟨t, ht⟩).1, bd_some, h3]
  rfl
theorem cntM {t j : Nat} {bl : List B3} {hl cl : List H4} {su : Nat → Option Nat} {σ : ST} {q : H4} (hv : vB bl) (hb : RB3 bl (σ.1 11) (σ.2.1 7)) (hg : vG hl cl su) (hd : RG3 hl cl su (σ.1 12) (σ.1 13) (σ.1 14) (σ.2.1 8) (σ.2.1 9) (σ.2.1 10)) (ht : t < 16) (hq : hl[j]? = some q) : ∃ f, fX11_countedOf FU σ (nI j) (nI t) = some (cnI bl q cl su t, sW σ 22 f) := by
  have ho := hg.2.1 q (List.mem_of_getElem? hq)
  have hlen := rn_len (bl := bl) (cl := cl) (su := su) (t := t) ho
  obtain ⟨f, h1, h2⟩ := lay hv hb hg hd ht hq
  have hu : ¬ uS6 t ≤ 0 ∨ rnL bl q cl su t = [] := by
    by_cases h : uS6 t ≤ 0
    · have e := (uC ⟨t, ht⟩).2.2 h
      have e : t = 8 := e
      subst e
      exact Or.inr (rn8 hv)
    · exact Or.inl h
  have h3 := hMM_loop (F := FU) (σ := sW σ 22 f) (v1 := nI j) (v2 := nI t) (u := uS6 t) h2 hlen hu _ FU 0 0 (Nat.zero_add _) (by unfold FU; omega)
  rw [List.drop_zero, show nI 0 = (0 : Int32) from rfl] at h3
  refine ⟨f, ?_⟩
  unfold fX11_countedOf
  rw [h1, bd_some, (uC ⟨t, ht⟩).2.1, bd_some]
  simp only []
  rw [h3]
  rfl
theorem st_counted : St_counted Inv := by
  intro S x1 x2 hI
  obtain ⟨-, ⟨bl, hv, hb, hm, -⟩, ⟨hl, cl, su, hg, hd, hd3⟩, -⟩ := id hI
  unfold fX10_counted fX11_counted
  rcases rng x1 hl.length (by have := hg.1; omega) with ⟨j, hj, rfl⟩ | hx
  · obtain ⟨q, hq, -⟩ := at_get hj
    rw [hh_in hd.1.1 hg.1 hj, ish_in hd3.1.1 hg.1 hj, bd_some, bd_some, if1, if1]
    rcases rng x2 16 (by omega) with ⟨t, ht, rfl⟩ | hx
    · obtain ⟨σ', h1⟩ := cntC (S 10) hv hb hg hd ht hq
      obtain ⟨f, h3⟩ := cntM hv hm hg hd3 ht hq
      rw [(min_in ht).1, (min_in ht).2, bd_some, bd_some, if1, if1, h1, h3]
      exact ⟨_, _, rfl, rfl, rfl, inv_rr hI⟩
    · rw [(min_out hx).1, (min_out hx).2]
      exact ⟨_, _, rfl, rfl, rfl, inv_rs hI⟩
  · rw [hh_out hd.1.1 hx, ish_out hd3.1.1 hg.1 hx]
    exact ⟨_, _, rfl, rfl, rfl, inv_rs hI⟩
def bsS (f : Nat → Int32) : Nat → Nat → Nat → Nat
  | 0, b, _ => b
  | r + 1, b, t => if f b ≤ f t then bsS f r b (t + 1) else bsS f r t (t + 1)
def dfI (x : Int32) : Int32 := if 0 ≤ x then x else 0 - x
theorem woE (F : Nat) (x : Int32) : fX11_without F x = some (dfI x) := by
  unfold fX11_without dfI
  by_cases h : 0 ≤ x
  · rw [if_pos h, if_pos h]
  · rw [if_neg h, if_neg h, Int32.zero_sub]
theorem bC_loop {j : Nat} {bl : List B3} {hl cl : List H4} {su : Nat → Option Nat} {σb σd : ST} {q : H4} {h : Int32} (hv : vB bl) (hb : RB bl σb) (hg : vG hl cl su) (hd : RG hl cl su σd) (hq : hl[j]? = some q) : ∀ (r n b t : Nat) (σr : ST), t + r = 16 → r < n → ∃ z : Int32 × Int32 × Int32 × ST, gX10_best_45 FU σb σd (nI j) h n (nI b) (dfI (cnI bl q cl su b - h)) (nI t) σr = some z ∧ z.1 = nI (bsS (fun t => dfI (cnI bl q cl su t - h)) r b t) := by
  intro r
  induction r with
  | zero =>
    intro n b t σr hi hn2
    obtain ⟨m, rfl⟩ : ∃ m, n = m + 1 := ⟨n - 1, by omega⟩
    refine ⟨(nI b, dfI (cnI bl q cl su b - h), nI t, σr), ?_, rfl⟩
    show gbX10_best_45 FU σb σd (nI j) h _ (nI b) _ (nI t) σr = _
    unfold gbX10_best_45
    rw [show t = 16 by omega, if_pos (by decide)]
  | succ r ih =>
    intro n b t σr hi hn2
    obtain ⟨m, rfl⟩ : ∃ m, n = m + 1 := ⟨n - 1, by omega⟩
    obtain ⟨σ', h1⟩ := cntC (t := t) σr hv hb hg hd (by omega) hq
    have e : gX10_best_45 FU σb σd (nI j) h (m + 1) (nI b) (dfI (cnI bl q cl su b - h)) (nI t) σr = gbX10_best_45 FU σb σd (nI j) h (gX10_best_45 FU σb σd (nI j) h m) (nI b) (dfI (cnI bl q cl su b - h)) (nI t) σr := rfl
    rw [e]
    unfold gbX10_best_45
    rw [if_neg (show ¬ (16 : Int32) ≤ nI t from nI_ge (a := t) (b := 16) (by omega) (by omega)), h1, bd_some, nI_1, bsS]
    have ed : (if 0 ≤ cnI bl q cl su t - h then cnI bl q cl su t - h else 0 - (cnI bl q cl su t - h)) = dfI (cnI bl q cl su t - h) := rfl
    simp only []
    rw [ed]
    by_cases hc : dfI (cnI bl q cl su b - h) ≤ dfI (cnI bl q cl su t - h)
    · rw [if_pos hc, if_pos hc]
      exact ih m b (t + 1) σ' (by omega) (by omega)
    · rw [if_neg hc, if_neg hc]
      exact ih m t (t + 1) σ' (by omega) (by omega)
theorem bM_loop {j : Nat} {bl : List B3} {hl cl : List H4} {su : Nat → Option Nat} {σ : ST} {q : H4} (hv : vB bl) (hb : RB3 bl (σ.1 11) (σ.2.1 7)) (hg : vG hl cl su) (hd : RG3 hl cl su (σ.1 12) (σ.1 13) (σ.1 14) (σ.2.1 8) (σ.2.1 9) (σ.2.1 10)) (hq : hl[j]? = some q) : ∀ (r n b t : Nat) (f : Nat → Int32), t + r = 16 → r < n → b < 16 → ∃ (f' : Nat → Int32) (v : Int32), gX11_best_14 FU (nI j) n (nI b) (nI t) (sW σ 22 f) = some (nI (bsS (fun t => dfI (cnI bl q cl su t - hsum bl bl.length 0)) r b t), v, sW σ 22 f') := by
  intro r
  induction r with
  | zero =>
    intro n b t f hi hn2 hb16
    obtain ⟨m, rfl⟩ : ∃ m, n = m + 1 := ⟨n - 1, by omega⟩
    refine ⟨f, nI t, ?_⟩
    show gbX11_best_14 FU (nI j) _ (nI b) (nI t) (sW σ 22 f) = _
    unfold gbX11_best_14
    rw [show t = 16 by omega, if_pos (by decide)]
    rfl
  | succ r ih =>
    intro n b t f hi hn2 hb16
    obtain ⟨m, rfl⟩ : ∃ m, n = m + 1 := ⟨n - 1, by omega⟩
    obtain ⟨f1, h1⟩ := cntM (t := t) (σ := sW σ 22 f) hv hb hg hd (by omega) hq
    have h2 := cts (σ := sW (sW σ 22 f) 22 f1) hb hv
    rw [sW_sW] at h1 h2
    obtain ⟨f2, h3⟩ := cntM (t := b) (σ := sW σ 22 f1) hv hb hg hd hb16 hq
    have h4 := cts (σ := sW (sW σ 22 f1) 22 f2) hb hv
    rw [sW_sW] at h3 h4
    have e : gX11_best_14 FU (nI j) (m + 1) (nI b) (nI t) (sW σ 22 f) = gbX11_best_14 FU (nI j) (gX11_best_14 FU (nI j) m) (nI b) (nI t) (sW σ 22 f) := rfl
    rw [e]
    unfold gbX11_best_14
    rw [if_neg (show ¬ (16 : Int32) ≤ nI t from nI_ge (a := t) (b := 16) (by omega) (by omega)), h1, bd_some]
    simp only []
    rw [h2, bd_some, woE, bd_some, h3, bd_some]
    simp only []
    rw [h4, bd_some, woE, bd_some, nI_1, bsS]
    by_cases hc : dfI (cnI bl q cl su b - hsum bl bl.length 0) ≤ dfI (cnI bl q cl su t - hsum bl bl.length 0)
    · rw [if_pos hc, if_pos hc]
      exact ih m b (t + 1) f2 (by omega) (by omega) hb16
    · rw [if_neg hc, if_neg hc]
      exact ih m t (t + 1) f2 (by omega) (by omega) (by omega)
theorem st_best : St_best Inv := by
  intro S x1 hI
  obtain ⟨-, ⟨bl, hv, hb, hm, -⟩, ⟨hl, cl, su, hg, hd, hd3⟩, -⟩ := id hI
  unfold fX10_best fX11_best
  rcases rng x1 hl.length (by have := hg.1; omega) with ⟨j, hj, rfl⟩ | hx
  · obtain ⟨q, hq, -⟩ := at_get hj
    obtain ⟨f, v, h3⟩ := bM_loop hv hm hg hd3 hq 15 FU 0 1 ((S 20).2.1 22) (by omega) (by unfold FU; omega) (by omega)
    rw [sW_same, show nI 0 = (0 : Int32) from rfl, show nI 1 = (1 : Int32) from rfl] at h3
    rw [hh_in hd.1.1 hg.1 hj, ish_in hd3.1.1 hg.1 hj, bd_some, bd_some, if1, if1, allH hb hv, bd_some, h3, bd_some]
    obtain ⟨σ1, h1⟩ := cntC (t := 0) (S 10) hv hb hg hd (by omega) hq
    obtain ⟨z, h4, h5⟩ := bC_loop (h := hsum bl bl.length 0) hv hb hg hd hq 15 FU 0 1 σ1 (by omega) (by unfold FU; omega)
    rw [show nI 0 = (0 : Int32) from rfl] at h1
    rw [show nI 0 = (0 : Int32) from rfl, show nI 1 = (1 : Int32) from rfl] at h4
    rw [h1, bd_some]
    have ed : (if 0 ≤ cnI bl q cl su 0 - hsum bl bl.length 0 then cnI bl q cl su 0 - hsum bl bl.length 0 else 0 - (cnI bl q cl su 0 - hsum bl bl.length 0)) = dfI (cnI bl q cl su 0 - hsum bl bl.length 0) := rfl
    simp only []
    rw [ed, h4, bd_some]
    exact ⟨_, _, rfl, rfl, h5, inv_rr hI⟩
  · rw [hh_out hd.1.1 hx, ish_out hd3.1.1 hg.1 hx]
    exact ⟨_, _, rfl, rfl, rfl, inv_rs hI⟩
