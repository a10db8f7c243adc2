theorem tr64 {a b c : Int64} (h1 : a ||| b = b) (h2 : b ||| c = c) : a ||| c = c := sl_tr sl64 h1 h2
theorem an64 {a b : Int64} (h1 : a ||| b = b) (h2 : b ||| a = a) : a = b := sl_an sl64 h1 h2
theorem or64 {a b c : Int64} (h1 : a ||| c = c) (h2 : b ||| c = c) : (a ||| b) ||| c = c := sl_or sl64 h1 h2
theorem l64 (a b : Int64) : a ||| (a ||| b) = a ||| b := sl_l sl64 a b
theorem r64 (a b : Int64) : b ||| (a ||| b) = a ||| b := sl_r sl64 a b
theorem t64 {a b c d : Int64} (h1 : a ||| c = c) (h2 : b ||| d = d) : (a ||| b) ||| (c ||| d) = c ||| d := sl_2 sl64 h1 h2
theorem as64 (a b c : Int64) : (a ||| b) ||| c = a ||| (b ||| c) := sl64.as a b c
theorem id64 (a : Int64) : a ||| a = a := sl64.id a
theorem ze64 (a : Int64) : 0 ||| a = a := sl64.ze a
theorem tr32 {a b c : Int32} (h1 : a ||| b = b) (h2 : b ||| c = c) : a ||| c = c := sl_tr sl32 h1 h2
theorem an32 {a b : Int32} (h1 : a ||| b = b) (h2 : b ||| a = a) : a = b := sl_an sl32 h1 h2
theorem as32 (a b c : Int32) : (a ||| b) ||| c = a ||| (b ||| c) := sl32.as a b c
theorem ze32 (a : Int32) : 0 ||| a = a := sl32.ze a
/-! how many, how few, how many at most, where surely -/
theorem cW_lt (sl : List (Nat × Nat)) (x r : Nat) (dk : Int64) : cW sl x r dk ≤ 3 ^ r := fb_ct_le _ _
theorem wtC {sl : List (Nat × Nat)} {σ : ST} (hv : vS sl) (hP : PP sl 0 σ) : ∀ (r d x : Nat) (dk : Int64), x + r = 10 → r < d → dk ||| wnL sl = wnL sl → fX3_waysToFill d σ (nI x) dk = some (nI (cW sl x r dk)) := by
  intro r
  induction r with
  | zero =>
    intro d x dk hx hd hdk
    obtain ⟨m, rfl⟩ : ∃ m, d = m + 1 := ⟨d - 1, by omega⟩
    obtain ⟨h3, h4⟩ := hP.2.2 x (by omega) (by omega)
    show fbX3_waysToFill (fX3_waysToFill m) σ (nI x) dk = _
    unfold fbX3_waysToFill
    have b1 : fX10_isBelow 0 (nI x) 11 = some 1 := bel_in (N := 11) (by omega) (by omega)
    have e0 : 10 - x = 0 := by omega
    rw [e0] at h3 h4
    have eT : dk ||| TL sl x 0 = dk := (sl64.co _ _).trans (sl64.ze _)
    rw [b1, bd_some, if1, if_neg (nI_in (show x < 11 by omega) (by omega)), nI_clamp (by omega), h3, h4, hP.1, eT]
    by_cases c : dk = wnL sl
    · rw [if_pos ((cmp0 _ _).mpr c), if_pos ((cmp0 _ _).mpr c), c]
    · rw [if_neg (fun e => c ((cmp0 _ _).mp e)), cW_no hv (by omega) (by rw [eT]; exact c)]
      rfl
  | succ r ih =>
    intro d x dk hx hd hdk
    obtain ⟨m, rfl⟩ : ∃ m, d = m + 1 := ⟨d - 1, by omega⟩
    obtain ⟨h3, h4⟩ := hP.2.2 x (by omega) (by omega)
    obtain ⟨h0, h1, h2⟩ := hP.2.1 x (by omega) (by omega)
    show fbX3_waysToFill (fX3_waysToFill m) σ (nI x) dk = _
    unfold fbX3_waysToFill
    have b1 : fX10_isBelow 0 (nI x) 11 = some 1 := bel_in (N := 11) (by omega) (by omega)
    have e0 : 10 - x = r + 1 := by omega
    have e1 : nI x + 1 = nI (x + 1) := nI_1 x
    have n10 : ¬ (10 : Int32) ≤ nI x := nI_ge (a := x) (b := 10) (by omega) (by omega)
    rw [e0] at h3 h4
    rw [b1, bd_some, if1, if_neg (nI_in (show x < 11 by omega) (by omega)), nI_clamp (by omega), h0, h1, h2, h3, h4, hP.1, e1]
    by_cases c1 : dk ||| TL sl x (r + 1) = wnL sl
    · rw [if_pos ((cmp0 _ _).mpr c1)]
      by_cases c2 : dk = wnL sl
      · rw [if_pos ((cmp0 _ _).mpr c2), c2]
      · have hin : ∀ d, d < 3 → d ≤ tlN sl x → (dk ||| vL sl x d) ||| wnL sl = wnL sl := fun d a b => sl_or sl64 hdk ((may_iff hv (by omega) a).mpr b)
        have ht : tlN sl x = chN sl x - 1 := rfl
        rw [if_neg (fun e => c2 ((cmp0 _ _).mp e)), ih m (x + 1) dk (by omega) (by omega) hdk, bd_some, cW_s, if_neg n10, if_neg (ckd (show x < 10 by omega) (by omega))]
        rcases ch_rng sl x with h | h | h
        · rw [h, if_pos (show nI 1 < (2 : Int32) by decide), if_neg n10, if_neg (show ¬ nI 1 = (3 : Int32) by decide), cW_out hv (by omega) (by omega) (show ¬ 1 ≤ tlN sl x by omega), cW_out hv (by omega) (by omega) (show ¬ 2 ≤ tlN sl x by omega)]
          rfl
        · rw [h, if_neg (show ¬ nI 2 < (2 : Int32) by decide), ih m (x + 1) _ (by omega) (by omega) (hin 1 (by omega) (by omega)), bd_some, if_neg n10, if_neg (show ¬ nI 2 = (3 : Int32) by decide), cW_out hv (by omega) (by omega) (show ¬ 2 ≤ tlN sl x by omega), nI_add]
          rfl
        · rw [h, if_neg (show ¬ nI 3 < (2 : Int32) by decide), ih m (x + 1) _ (by omega) (by omega) (hin 1 (by omega) (by omega)), bd_some, if_neg n10, if_pos (show nI 3 = (3 : Int32) from rfl), ih m (x + 1) _ (by omega) (by omega) (hin 2 (by omega) (by omega)), bd_some, nI_add, nI_add]
    · rw [if_neg (fun e => c1 ((cmp0 _ _).mp e)), cW_no hv (by omega) c1]
      rfl
theorem cW_fit (sl : List (Nat × Nat)) : cW sl 0 10 0 = fb_ct (fitB sl) 59049 := by
  unfold cW cM
  refine fb_ct_cong (fun c _ => ?_)
  have e : (0 : Int64) ||| dO (· ||| ·) 0 (vL sl) 0 10 c = dL sl 0 10 c := sl64.ze _
  show decide ((0 : Int64) ||| dO (· ||| ·) 0 (vL sl) 0 10 c = wnL sl) = _
  rw [e]
  rfl
theorem st_fits : St_fits Inv := by
  intro S hI
  obtain ⟨-, -, -, ⟨sl, hv, s1, s2⟩, -, -⟩ := id hI
  obtain ⟨σ', h1, h2⟩ := layM false hv s2
  rw [show (if false = true then (1 : Int32) else 0) = 0 from rfl] at h1
  obtain ⟨σp, p1, p2⟩ := prC (S 12) hv s1
  have h3 := wtC hv p2 10 13 0 0 (by omega) (by omega) (sl64.ze _)
  unfold fX10_fits fX11_fits fX3_number
  rw [h1, p1, bd_some, bd_some, show (0 : Int32) = nI 0 from rfl, h3, bd_some, bd_some, cW_fit]
  exact ⟨_, _, rfl, rfl, h2.1.symm, inv_fr hI h2.2.2.2.2.1⟩
/-- whether there is one that fits -/
theorem ex_iff {sl : List (Nat × Nat)} (hv : vS sl) : TL sl 0 10 = wnL sl ↔ ∃ c, c < 59049 ∧ fitB sl c = true := by
  constructor
  · intro h
    refine ⟨tC (tlN sl) 0 10, tC_lt (tl_lt sl) 10 0, decide_eq_true ?_⟩
    rw [dL_tC]
    exact h
  · rintro ⟨c, -, h⟩
    have h := of_decide_eq_true h
    have := TL_fit hv (x := 0) (r := 10) (c := c) (dk := 0) (by omega) ((sl64.ze _).trans h)
    exact (sl64.ze _).symm.trans this
theorem exC {F : Nat} {sl : List (Nat × Nat)} {σ : ST} (hv : vS sl) (hP : PP sl 0 σ) : fX3_exist F σ = some (if TL sl 0 10 = wnL sl then 1 else 0) := by
  obtain ⟨h3, -⟩ := hP.2.2 0 (by omega) (by omega)
  unfold fX3_exist
  rw [show (0 : Int32).toNatClampNeg = 0 from rfl, h3, hP.1]
  by_cases h : TL sl 0 10 = wnL sl
  · rw [if_pos ((cmp0 _ _).mpr h), if_pos h]
  · rw [if_neg (fun e => h ((cmp0 _ _).mp e)), if_neg h]
theorem no_iff {sl : List (Nat × Nat)} (hv : vS sl) : nI (fb_ct (fitB sl) 59049) = (0 : Int32) ↔ ¬ TL sl 0 10 = wnL sl := by
  have hle := fb_ct_le (fitB sl) 59049
  rw [ex_iff hv, ← fb_ct_pos]
  have e : nI (fb_ct (fitB sl) 59049) = nI 0 ↔ fb_ct (fitB sl) 59049 = 0 := nI_eq (by omega) (by omega)
  rw [show nI 0 = (0 : Int32) from rfl] at e
  rw [e]
  omega
/-- how few -/
theorem fwC {sl : List (Nat × Nat)} {σ : ST} (hv : vS sl) (hP : PP sl 0 σ) : ∀ (r d x : Nat) (dk : Int64), x + r = 10 → r < d → dk ||| wnL sl = wnL sl → ∃ n, fX3_fewestFrom d σ (nI x) dk = some (nI n) ∧ n ≤ 11 ∧ (∀ c, dk ||| dL sl x r c = wnL sl → n ≤ hdN r c) ∧ (n = 11 ∨ ∃ c, c < 3 ^ r ∧ dk ||| dL sl x r c = wnL sl ∧ hdN r c = n) := by
  have hz : ∀ r c, hdN r 0 ≤ c := fun r => by
    induction r with
    | zero => exact fun c => Nat.zero_le _
    | succ r ih =>
      intro c
      rw [hdN, show 0 / 3 = 0 from rfl, if_pos rfl, Nat.zero_add]
      exact ih c
  intro r
  induction r with
  | zero =>
    intro d x dk hx hd hdk
    obtain ⟨m, rfl⟩ : ∃ m, d = m + 1 := ⟨d - 1, by omega⟩
    have e : fX3_fewestFrom (m + 1) σ (nI x) dk = fbX3_fewestFrom (fX3_fewestFrom m) σ (nI x) dk := rfl
    have eD : ∀ c, dk ||| dL sl x 0 c = dk := fun c => (sl64.co _ _).trans (sl64.ze _)
    have b1 : fX10_isBelow 0 (nI x) 10 = some 0 := bel_out (N := 10) (Or.inr (nI_le (by omega) (by omega)))
    rw [e]
    unfold fbX3_fewestFrom
    rw [hP.1, b1, bd_some, if0]
    by_cases c : dk = wnL sl
    · rw [if_pos ((cmp0 _ _).mpr c)]
      exact ⟨0, rfl, by omega, fun _ _ => Nat.zero_le _, Or.inr ⟨0, by decide, by rw [eD]; exact c, rfl⟩⟩
    · rw [if_neg (fun e => c ((cmp0 _ _).mp e))]
      exact ⟨11, rfl, by omega, fun c' h => absurd (by rw [eD] at h; exact h) c, Or.inl rfl⟩
  | succ r ih =>
    intro d x dk hx hd hdk
    obtain ⟨m, rfl⟩ : ∃ m, d = m + 1 := ⟨d - 1, by omega⟩
    have e : fX3_fewestFrom (m + 1) σ (nI x) dk = fbX3_fewestFrom (fX3_fewestFrom m) σ (nI x) dk := rfl
    obtain ⟨h3, -⟩ := hP.2.2 x (by omega) (by omega)
    have e0 : 10 - x = r + 1 := by omega
    rw [e0] at h3
    have b1 : fX10_isBelow 0 (nI x) 10 = some 1 := bel_in (N := 10) (by omega) (by omega)
    have e1 : nI x + 1 = nI (x + 1) := nI_1 x
    have ta := taC (F := 0) hP (Nat.zero_le x) (show x < 10 by omega)
    rw [e]
    unfold fbX3_fewestFrom
    rw [hP.1, b1, bd_some, if1, if_neg (nI_in (show x < 11 by omega) (by omega)), nI_clamp (by omega), h3, e1]
    by_cases c : dk = wnL sl
    · rw [if_pos ((cmp0 _ _).mpr c)]
      refine ⟨0, rfl, by omega, fun _ _ => Nat.zero_le _, Or.inr ⟨0, Nat.pow_pos (by omega), ?_, Nat.le_zero.mp (hz (r + 1) 0)⟩⟩
      have hD : ∀ r x, dL sl x r 0 = 0 := fun r => by
        induction r with
        | zero => exact fun _ => rfl
        | succ r ih =>
          intro x
          have e : dL sl x (r + 1) 0 = vL sl x 0 ||| dL sl (x + 1) r 0 := rfl
          rw [e, vL_0, ih]
          rfl
      rw [hD, c]
      exact (sl64.co _ _).trans (sl64.ze _)
    · rw [if_neg (fun e => c ((cmp0 _ _).mp e))]
      by_cases c1 : dk ||| TL sl x (r + 1) = wnL sl
      · have hin : (dk ||| vL sl x (tlN sl x)) ||| wnL sl = wnL sl := sl_or sl64 hdk ((may_iff hv (by omega) (tl_lt _ _)).mpr (Nat.le_refl _))
        obtain ⟨n7, a1, a2, a3, a4⟩ := ih m (x + 1) dk (by omega) (by omega) hdk
        obtain ⟨n11, b1, b2, b3, b4⟩ := ih m (x + 1) _ (by omega) (by omega) hin
        rw [if_pos ((cmp0 _ _).mpr c1), a1, bd_some, ta, bd_some, b1, bd_some]
        have e2 : (1 : Int32) + nI n11 = nI (1 + n11) := by
          rw [show (1 : Int32) = nI 1 from rfl, nI_add]
        have e3 : (if (1 : Int32) + nI n11 < nI n7 then (1 : Int32) + nI n11 else nI n7) = nI (if 1 + n11 < n7 then 1 + n11 else n7) := by
          rw [e2]
          by_cases q : 1 + n11 < n7
          · rw [if_pos q, if_pos (nI_lt q (by omega))]
          · rw [if_neg q, if_neg (nI_nlt (by omega) (by omega))]
        rw [e3]
        have eD : ∀ c, dL sl x (r + 1) c = vL sl x (c % 3) ||| dL sl (x + 1) r (c / 3) := fun _ => rfl
        have low : ∀ c, dk ||| dL sl x (r + 1) c = wnL sl → (if 1 + n11 < n7 then 1 + n11 else n7) ≤ hdN (r + 1) c := by
          intro c hc
          have hmin : (if 1 + n11 < n7 then 1 + n11 else n7) ≤ n7 ∧ (if 1 + n11 < n7 then 1 + n11 else n7) ≤ 1 + n11 := by
            by_cases q : 1 + n11 < n7
            · rw [if_pos q]; omega
            · rw [if_neg q]; omega
          have hdig := dig_ok hv (by omega) hc 0 (by omega)
          have hdig : c % 3 ≤ tlN sl x := hdig
          rw [hdN]
          rw [eD] at hc
          by_cases h0 : c % 3 = 0
          · rw [if_pos h0]
            rw [h0, vL_0] at hc
            rw [ze64] at hc
            have := a3 (c / 3) hc
            omega
          · rw [if_neg h0]
            have hle := vL_le hv (x := x) (show x < 10 by omega) (tl_lt sl x) hdig
            have hD : dL sl (x + 1) r (c / 3) ||| wnL sl = wnL sl := by
              rw [← hc]
              exact tr64 (r64 (vL sl x (c % 3)) (dL sl (x + 1) r (c / 3))) (r64 dk _)
            have hB : wnL sl ||| ((dk ||| vL sl x (tlN sl x)) ||| dL sl (x + 1) r (c / 3)) = (dk ||| vL sl x (tlN sl x)) ||| dL sl (x + 1) r (c / 3) := by
              rw [← hc, ← as64 dk (vL sl x (c % 3))]
              exact t64 (t64 (id64 dk) hle) (id64 _)
            have := b3 (c / 3) (an64 (or64 hin hD) hB)
            omega
        have hT : dk ||| dL sl x (r + 1) (tC (tlN sl) x (r + 1)) = wnL sl := by
          rw [dL_tC]
          exact c1
        have hle10 := low _ hT
        have hh := hdN_le (r + 1) (tC (tlN sl) x (r + 1))
        refine ⟨_, rfl, ?_, low, Or.inr ?_⟩
        · by_cases q : 1 + n11 < n7
          · rw [if_pos q]; omega
          · rw [if_neg q]; omega
        · by_cases q : 1 + n11 < n7
          · rw [if_pos q] at hle10 low ⊢
            rcases b4 with b4 | ⟨c', d1, d2, d3⟩
            · omega
            · have ht := tl_lt sl x
              have hc : dk ||| dL sl x (r + 1) (tlN sl x + 3 * c') = wnL sl := by
                rw [eD, show (tlN sl x + 3 * c') % 3 = tlN sl x by omega, show (tlN sl x + 3 * c') / 3 = c' by omega, ← as64]
                exact d2
              have hl := low _ hc
              have hh2 : hdN (r + 1) (tlN sl x + 3 * c') = (if tlN sl x = 0 then 0 else 1) + n11 := by
                rw [hdN, show (tlN sl x + 3 * c') % 3 = tlN sl x by omega, show (tlN sl x + 3 * c') / 3 = c' by omega, d3]
              refine ⟨tlN sl x + 3 * c', by rw [Nat.pow_succ]; omega, hc, ?_⟩
              rw [hh2] at hl ⊢
              by_cases h0 : tlN sl x = 0
              · rw [if_pos h0] at hl; omega
              · rw [if_neg h0]
          · rw [if_neg q] at hle10 low ⊢
            rcases a4 with a4 | ⟨c', d1, d2, d3⟩
            · omega
            · refine ⟨3 * c', by rw [Nat.pow_succ]; omega, ?_, ?_⟩
              · rw [eD, show 3 * c' % 3 = 0 by omega, show 3 * c' / 3 = c' by omega, vL_0, ze64]
                exact d2
              · rw [hdN, show 3 * c' % 3 = 0 by omega, show 3 * c' / 3 = c' by omega, if_pos rfl, Nat.zero_add, d3]
      · rw [if_neg (fun e => c1 ((cmp0 _ _).mp e))]
        exact ⟨11, rfl, by omega, fun c' h => absurd (TL_fit hv (by omega) h) c1, Or.inl rfl⟩
theorem mn_char (fit : Nat → Bool) : ∀ n, (mnA fit n = 99 ∧ ∀ c, c < n → fit c = false) ∨ ∃ m, mnA fit n = nI m ∧ m ≤ 10 ∧ (∃ c, c < n ∧ fit c = true ∧ hdN 10 c = m) ∧ ∀ c, c < n → fit c = true → m ≤ hdN 10 c
  | 0 => Or.inl ⟨rfl, fun c h => by omega⟩
  | n + 1 => by
    have hl := hdN_le 10 n
    rw [mnA]
    rcases mn_char fit n with ⟨h1, h2⟩ | ⟨m, h1, h2, ⟨c, c1, c2, c3⟩, h3⟩
    · cases hf : fit n with
      | false =>
        refine Or.inl ⟨by rw [h1]; rfl, fun c hc => ?_⟩
        by_cases e : c = n
        · rw [e]; exact hf
        · exact h2 c (by omega)
      | true =>
        refine Or.inr ⟨hdN 10 n, ?_, hl, ⟨n, by omega, hf, rfl⟩, fun c hc h => ?_⟩
        · rw [h1]
          unfold mnS
          rw [if_pos rfl, if_neg (show ¬ (99 : Int32) ≤ nI (hdN 10 n) from nI_ge (a := hdN 10 n) (b := 99) (by omega) (by omega))]
        · by_cases e : c = n
          · rw [e]; exact Nat.le_refl _
          · rw [h2 c (by omega)] at h
            cases h
    · refine Or.inr ?_
      cases hf : fit n with
      | false =>
        refine ⟨m, by rw [h1]; rfl, h2, ⟨c, by omega, c2, c3⟩, fun c hc h => ?_⟩
        by_cases e : c = n
        · rw [e, hf] at h
          cases h
        · exact h3 c (by omega) h
      | true =>
        rw [if_pos rfl, h1]
        unfold mnS
        by_cases q : m ≤ hdN 10 n
        · rw [if_pos (nI_le q (by omega))]
          refine ⟨m, rfl, h2, ⟨c, by omega, c2, c3⟩, fun c hc h => ?_⟩
          by_cases e : c = n
          · rw [e]; exact q
          · exact h3 c (by omega) h
        · rw [if_neg (nI_ge (by omega) (by omega))]
          refine ⟨hdN 10 n, rfl, hl, ⟨n, by omega, hf, rfl⟩, fun c hc h => ?_⟩
          by_cases e : c = n
          · rw [e]; exact Nat.le_refl _
          · have := h3 c (by omega) h
            omega
theorem mx_char (fit : Nat → Bool) : ∀ n, (mxA fit n = -9 ∧ ∀ c, c < n → fit c = false) ∨ ∃ m, mxA fit n = nI m ∧ m ≤ 10 ∧ (∃ c, c < n ∧ fit c = true ∧ hdN 10 c = m) ∧ ∀ c, c < n → fit c = true → hdN 10 c ≤ m
  | 0 => Or.inl ⟨rfl, fun c h => by omega⟩
  | n + 1 => by
    have hl := hdN_le 10 n
    rw [mxA]
    rcases mx_char fit n with ⟨h1, h2⟩ | ⟨m, h1, h2, ⟨c, c1, c2, c3⟩, h3⟩
    · cases hf : fit n with
      | false =>
        refine Or.inl ⟨by rw [h1]; rfl, fun c hc => ?_⟩
        by_cases e : c = n
        · rw [e]; exact hf
        · exact h2 c (by omega)
      | true =>
        refine Or.inr ⟨hdN 10 n, ?_, hl, ⟨n, by omega, hf, rfl⟩, fun c hc h => ?_⟩
        · rw [h1]
          unfold mxS
          have : ¬ nI (hdN 10 n) ≤ -9 := fun q => by
            rw [fa_le, nI_toInt (by omega)] at q
            have e9 : (-9 : Int32).toInt = -9 := by decide
            omega
          rw [if_pos rfl, if_neg this]
        · by_cases e : c = n
          · rw [e]; exact Nat.le_refl _
          · rw [h2 c (by omega)] at h
            cases h
    · refine Or.inr ?_
      cases hf : fit n with
      | false =>
        refine ⟨m, by rw [h1]; rfl, h2, ⟨c, by omega, c2, c3⟩, fun c hc h => ?_⟩
        by_cases e : c = n
        · rw [e, hf] at h
          cases h
        · exact h3 c (by omega) h
      | true =>
        rw [if_pos rfl, h1]
        unfold mxS
        by_cases q : hdN 10 n ≤ m
        · rw [if_pos (nI_le q (by omega))]
          refine ⟨m, rfl, h2, ⟨c, by omega, c2, c3⟩, fun c hc h => ?_⟩
          by_cases e : c = n
          · rw [e]; exact q
          · exact h3 c (by omega) h
        · rw [if_neg (nI_ge (by omega) (by omega))]
          refine ⟨hdN 10 n, rfl, hl, ⟨n, by omega, hf, rfl⟩, fun c hc h => ?_⟩
          by_cases e : c = n
          · rw [e]; exact Nat.le_refl _
          · have := h3 c (by omega) h
            omega
theorem mh_loop {F : Nat} {sl : List (Nat × Nat)} {σ : ST} (hP : PP sl 0 σ) : ∀ (r n x h : Nat), x + r = 10 → r < n → gX3_mostHeads_4 F σ n (nI h) (nI x) = some (nI (h + hdN r (tC (tlN sl) x r)), nI 10) := by
  intro r
  induction r with
  | zero =>
    intro n x h hx hn
    obtain ⟨m, rfl⟩ : ∃ m, n = m + 1 := ⟨n - 1, by omega⟩
    show gbX3_mostHeads_4 F σ _ (nI h) (nI x) = _
    unfold gbX3_mostHeads_4
    rw [show x = 10 by omega, if_pos (by decide)]
    rfl
  | succ r ih =>
    intro n x h hx hn
    obtain ⟨m, rfl⟩ : ∃ m, n = m + 1 := ⟨n - 1, by omega⟩
    obtain ⟨h0, h1, h2⟩ := hP.2.1 x (by omega) (by omega)
    have ht : tlN sl x = chN sl x - 1 := rfl
    have hr := ch_rng sl x
    show gbX3_mostHeads_4 F σ (gX3_mostHeads_4 F σ m) (nI h) (nI x) = _
    unfold gbX3_mostHeads_4
    rw [if_neg (show ¬ (10 : Int32) ≤ nI x from nI_ge (a := x) (b := 10) (by omega) (by omega)), if_neg (nI_in (show x < 10 by omega) (by omega)), nI_clamp (by omega), h2, nI_1, tC, hdN, show (tlN sl x + 3 * tC (tlN sl) (x + 1) r) % 3 = tlN sl x by omega, show (tlN sl x + 3 * tC (tlN sl) (x + 1) r) / 3 = tC (tlN sl) (x + 1) r by omega]
    by_cases c : chN sl x = 1
    · rw [c, if_pos (show nI 1 = (1 : Int32) from rfl), Int32.add_zero, ih m (x + 1) h (by omega) (by omega), if_pos (by omega), Nat.zero_add]
    · rw [if_neg (show ¬ nI (chN sl x) = (1 : Int32) from fun e => c ((nI_eq (b := 1) (by omega) (by omega)).mp e)), nI_1, ih m (x + 1) (h + 1) (by omega) (by omega), if_neg (by omega), Nat.add_assoc]
theorem hd_dig : ∀ (r c d : Nat), (∀ i, i < r → dig i c ≤ dig i d) → hdN r c ≤ hdN r d
  | 0, _, _, _ => Nat.le_refl _
  | r + 1, c, d, h => by
    have h0 : c % 3 ≤ d % 3 := h 0 (by omega)
    have := hd_dig r (c / 3) (d / 3) (fun i hi => h (i + 1) (by omega))
    rw [hdN, hdN]
    by_cases e : c % 3 = 0
    · rw [if_pos e]
      omega
    · rw [if_neg e, if_neg (by omega)]
      omega
theorem st_people : St_people Inv := by
  intro S x1 hI hx
  obtain ⟨-, -, -, ⟨sl, hv, s1, s2⟩, -, -⟩ := id hI
  obtain ⟨σ', h1, h2⟩ := layM false hv s2
  rw [show (if false = true then (1 : Int32) else 0) = 0 from rfl] at h1
  obtain ⟨σp, p1, p2⟩ := prC (S 12) hv s1
  have hinv := inv_fr (σp := σp) hI h2.2.2.2.2.1
  unfold fX10_people fX11_people
  rw [h1, p1, bd_some, bd_some, exC hv p2, bd_some, h2.1]
  by_cases hT : TL sl 0 10 = wnL sl
  · rw [if_pos hT, if1, if_neg (fun e => (no_iff hv).mp e hT)]
    have hf : fitB sl (tC (tlN sl) 0 10) = true := decide_eq_true (by rw [dL_tC]; exact hT)
    have hlt : tC (tlN sl) 0 10 < 59049 := tC_lt (tl_lt sl) 10 0
    by_cases h0 : x1 = 0
    · rw [if_pos h0, if_pos h0]
      obtain ⟨n, a1, a2, a3, a4⟩ := fwC hv p2 10 13 0 0 (by omega) (by omega) (sl64.ze _)
      unfold fX3_fewestHeads
      rw [show (0 : Int32) = nI 0 from rfl, a1, bd_some, bd_some]
      refine ⟨_, _, rfl, rfl, ?_, hinv⟩
      show nI n = σ'.1 28
      rw [h2.2.1]
      have conv : ∀ c, fitB sl c = true ↔ (0 : Int64) ||| dL sl 0 10 c = wnL sl := fun c => ⟨fun h => (sl64.ze _).trans (of_decide_eq_true h), fun h => decide_eq_true ((sl64.ze _).symm.trans h)⟩
      rcases mn_char (fitB sl) 59049 with ⟨-, b2⟩ | ⟨m, b1, b2, ⟨c, c1, c2, c3⟩, b3⟩
      · rw [b2 _ hlt] at hf
        cases hf
      · rw [b1]
        rcases a4 with a4 | ⟨c', d1, d2, d3⟩
        · have := a3 c ((conv c).mp c2)
          omega
        · have e1 := a3 c ((conv c).mp c2)
          have e2 := b3 c' d1 ((conv c').mpr d2)
          rw [show n = m by omega]
    · rw [if_neg h0, if_neg h0]
      have a1 := mh_loop (F := FU) p2 10 FU 0 0 (by omega) (by unfold FU; omega)
      rw [show nI 0 = (0 : Int32) from rfl, Nat.zero_add] at a1
      unfold fX3_mostHeads
      rw [a1, bd_some, bd_some]
      refine ⟨_, _, rfl, rfl, ?_, hinv⟩
      show nI (hdN 10 (tC (tlN sl) 0 10)) = σ'.1 29
      rw [h2.2.2.1]
      rcases mx_char (fitB sl) 59049 with ⟨-, b2⟩ | ⟨m, b1, b2, ⟨c, c1, c2, c3⟩, b3⟩
      · rw [b2 _ hlt] at hf
        cases hf
      · rw [b1]
        have e1 := b3 _ hlt hf
        have e2 : hdN 10 c ≤ hdN 10 (tC (tlN sl) 0 10) := hd_dig 10 c _ (fun i hi => by
          rw [dig_tC (tl_lt sl) 10 0 i hi]
          exact dig_ok hv (by omega) ((sl64.ze _).trans (of_decide_eq_true c2)) i hi)
        rw [show m = hdN 10 (tC (tlN sl) 0 10) by omega]
  · rw [if_neg hT, if0, if_pos ((no_iff hv).mpr hT)]
    exact ⟨_, _, rfl, rfl, rfl, hinv⟩
