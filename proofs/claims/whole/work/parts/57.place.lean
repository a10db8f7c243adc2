/-! place -/
theorem pow1 : ∀ y : Fin 6, (1 : Int32) <<< (nI y.1 &&& 31) = nI (2 ^ y.1) := by decide +kernel
theorem mskN_lt (su : Nat → Option Nat) : ∀ n, mskN su n < 2 ^ n
  | 0 => Nat.zero_lt_one
  | n + 1 => by
    have := mskN_lt su n
    show mskN su n + (if (su n).isSome then 2 ^ n else 0) < 2 ^ (n + 1)
    rw [Nat.pow_succ]
    by_cases c : (su n).isSome = true
    · rw [if_pos c]
      omega
    · rw [if_neg c]
      omega
theorem msk_s {su : Nat → Option Nat} {y m : Nat} (hy : y < 6) (hs : su y = some m) : nI (mskN su y) ||| ((1 : Int32) <<< (nI y &&& 31)) = nI (mskN su (y + 1)) := by
  have e : mskN su (y + 1) = 2 ^ y * 1 + mskN su y := by
    show mskN su y + (if (su y).isSome then 2 ^ y else 0) = _
    rw [hs, if_pos (show (some m).isSome = true from rfl), Nat.mul_one, Nat.add_comm]
  rw [pow1 ⟨y, hy⟩, e, ← fa_or_sum 1 (mskN_lt su y), Nat.mul_one]
  exact Int32.or_comm _ _
theorem msk_z {su : Nat → Option Nat} {y : Nat} (hs : su y = none) : mskN su y = mskN su (y + 1) := by
  show _ = mskN su y + (if (su y).isSome then 2 ^ y else 0)
  rw [hs]
  rfl
theorem p38_loop {F : Nat} : ∀ (r n i : Nat) (σ : ST), i + r = 24 → r < n → ∃ σ' : ST, gX11_place_38 F n (nI i) σ = some (nI 24, σ') ∧ σ'.1 = σ.1 ∧ (∀ k, k ≠ 7 → σ'.2.1 k = σ.2.1 k) ∧ (∀ j, j < i → σ'.2.1 7 j = σ.2.1 7 j) ∧ ∀ j, i ≤ j → j < 24 → σ'.2.1 7 j = σ.2.1 0 j := by
  intro r
  induction r with
  | zero =>
    intro n i σ hi hn
    obtain ⟨m, rfl⟩ : ∃ m, n = m + 1 := ⟨n - 1, by omega⟩
    have e : i = 24 := by omega
    subst e
    refine ⟨σ, ?_, rfl, fun _ _ => rfl, fun _ _ => rfl, fun j h1 h2 => by omega⟩
    show gbX11_place_38 F _ (nI 24) σ = _
    unfold gbX11_place_38
    rw [if_pos (by decide)]
  | succ r ih =>
    intro n i σ hi hn
    obtain ⟨m, rfl⟩ : ∃ m, n = m + 1 := ⟨n - 1, by omega⟩
    obtain ⟨σ', h1, h2, h3, h4, h5⟩ := ih m (i + 1) (sA σ 7 i (σ.2.1 0 i)) (by omega) (by omega)
    refine ⟨σ', ?_, h2, fun k hk => ?_, fun j hj => ?_, fun j ha hb => ?_⟩
    · show gbX11_place_38 F (gX11_place_38 F m) (nI i) σ = _
      unfold gbX11_place_38
      rw [if_neg (show ¬ (24 : Int32) ≤ nI i from nI_ge (a := i) (b := 24) (by omega) (by omega)), if_neg (nI_in (show i < 24 by omega) (by omega)), nI_clamp (by omega), nm_go, nI_1]
      exact h1
    · rw [h3 k hk, st_A2, if_neg hk]
    · rw [h4 j (by omega), aA_at, if_pos rfl, if_neg (by omega)]
    · by_cases c : j = i
      · rw [h4 j (by omega), aA_at, if_pos rfl, if_pos c, c]
      · rw [h5 j (by omega) hb, st_A2, if_neg (by omega)]
theorem p64_loop {F : Nat} : ∀ (r n i : Nat) (σ : ST), i + r = 12 → r < n → ∃ σ' : ST, gX11_place_64 F n (nI i) σ = some (nI 12, σ') ∧ σ'.1 = σ.1 ∧ (∀ k, k ≠ 8 → σ'.2.1 k = σ.2.1 k) ∧ (∀ j, j < i → σ'.2.1 8 j = σ.2.1 8 j) ∧ ∀ j, i ≤ j → j < 12 → σ'.2.1 8 j = σ.2.1 1 j := by
  intro r
  induction r with
  | zero =>
    intro n i σ hi hn
    obtain ⟨m, rfl⟩ : ∃ m, n = m + 1 := ⟨n - 1, by omega⟩
    have e : i = 12 := by omega
    subst e
    refine ⟨σ, ?_, rfl, fun _ _ => rfl, fun _ _ => rfl, fun j h1 h2 => by omega⟩
    show gbX11_place_64 F _ (nI 12) σ = _
    unfold gbX11_place_64
    rw [if_pos (by decide)]
  | succ r ih =>
    intro n i σ hi hn
    obtain ⟨m, rfl⟩ : ∃ m, n = m + 1 := ⟨n - 1, by omega⟩
    obtain ⟨σ', h1, h2, h3, h4, h5⟩ := ih m (i + 1) (sA σ 8 i (σ.2.1 1 i)) (by omega) (by omega)
    refine ⟨σ', ?_, h2, fun k hk => ?_, fun j hj => ?_, fun j ha hb => ?_⟩
    · show gbX11_place_64 F (gX11_place_64 F m) (nI i) σ = _
      unfold gbX11_place_64
      rw [if_neg (show ¬ (12 : Int32) ≤ nI i from nI_ge (a := i) (b := 12) (by omega) (by omega)), if_neg (nI_in (show i < 12 by omega) (by omega)), nI_clamp (by omega), nm_go, nI_1]
      exact h1
    · rw [h3 k hk, st_A2, if_neg hk]
    · rw [h4 j (by omega), aA_at, if_pos rfl, if_neg (by omega)]
    · by_cases c : j = i
      · rw [h4 j (by omega), aA_at, if_pos rfl, if_pos c, c]
      · rw [h5 j (by omega) hb, st_A2, if_neg (by omega)]
theorem p90_loop {F : Nat} : ∀ (r n i : Nat) (σ : ST), i + r = 16 → r < n → ∃ σ' : ST, gX11_place_90 F n (nI i) σ = some (nI 16, σ') ∧ σ'.1 = σ.1 ∧ (∀ k, k ≠ 9 → σ'.2.1 k = σ.2.1 k) ∧ (∀ j, j < i → σ'.2.1 9 j = σ.2.1 9 j) ∧ ∀ j, i ≤ j → j < 16 → σ'.2.1 9 j = σ.2.1 2 j := by
  intro r
  induction r with
  | zero =>
    intro n i σ hi hn
    obtain ⟨m, rfl⟩ : ∃ m, n = m + 1 := ⟨n - 1, by omega⟩
    have e : i = 16 := by omega
    subst e
    refine ⟨σ, ?_, rfl, fun _ _ => rfl, fun _ _ => rfl, fun j h1 h2 => by omega⟩
    show gbX11_place_90 F _ (nI 16) σ = _
    unfold gbX11_place_90
    rw [if_pos (by decide)]
  | succ r ih =>
    intro n i σ hi hn
    obtain ⟨m, rfl⟩ : ∃ m, n = m + 1 := ⟨n - 1, by omega⟩
    obtain ⟨σ', h1, h2, h3, h4, h5⟩ := ih m (i + 1) (sA σ 9 i (σ.2.1 2 i)) (by omega) (by omega)
    refine ⟨σ', ?_, h2, fun k hk => ?_, fun j hj => ?_, fun j ha hb => ?_⟩
    · show gbX11_place_90 F (gX11_place_90 F m) (nI i) σ = _
      unfold gbX11_place_90
      rw [if_neg (show ¬ (16 : Int32) ≤ nI i from nI_ge (a := i) (b := 16) (by omega) (by omega)), if_neg (nI_in (show i < 16 by omega) (by omega)), nI_clamp (by omega), nm_go, nI_1]
      exact h1
    · rw [h3 k hk, st_A2, if_neg hk]
    · rw [h4 j (by omega), aA_at, if_pos rfl, if_neg (by omega)]
    · by_cases c : j = i
      · rw [h4 j (by omega), aA_at, if_pos rfl, if_pos c, c]
      · rw [h5 j (by omega) hb, st_A2, if_neg (by omega)]
theorem p121_loop {F : Nat} {su : Nat → Option Nat} (hv : ∀ y m, su y = some m → m < 16) : ∀ (r n y : Nat) (σ : ST), y + r = 6 → r < n → (∀ z, z < 6 → σ.2.1 3 z = sunI (su z)) → σ.1 14 = nI (mskN su y) → ∃ σ' : ST, gX11_place_121 F n (nI y) σ = some (nI 6, σ') ∧ (∀ k, k ≠ 14 → σ'.1 k = σ.1 k) ∧ σ'.1 14 = nI (mskN su 6) ∧ (∀ k, k ≠ 10 → σ'.2.1 k = σ.2.1 k) ∧ (∀ j, j < y → σ'.2.1 10 j = σ.2.1 10 j) ∧ ∀ j, y ≤ j → j < 6 → σ'.2.1 10 j = nI ((su j).getD 0) := by
  intro r
  induction r with
  | zero =>
    intro n y σ hy hn hs hm
    obtain ⟨m, rfl⟩ : ∃ m, n = m + 1 := ⟨n - 1, by omega⟩
    have e : y = 6 := by omega
    subst e
    refine ⟨σ, ?_, fun _ _ => rfl, hm, fun _ _ => rfl, fun _ _ => rfl, fun j h1 h2 => by omega⟩
    show gbX11_place_121 F _ (nI 6) σ = _
    unfold gbX11_place_121
    rw [if_pos (by decide)]
  | succ r ih =>
    intro n y σ hy hn hs hm
    obtain ⟨m, rfl⟩ : ∃ m, n = m + 1 := ⟨n - 1, by omega⟩
    have st : gX11_place_121 F (m + 1) (nI y) σ = gX11_place_121 F m (nI (y + 1)) (sA (sI σ 14 (nI (mskN su (y + 1)))) 10 y (nI ((su y).getD 0))) := by
      show gbX11_place_121 F (gX11_place_121 F m) (nI y) σ = _
      unfold gbX11_place_121
      rw [if_neg (show ¬ (6 : Int32) ≤ nI y from nI_ge (a := y) (b := 6) (by omega) (by omega)), if_neg (nI_in (show y < 6 by omega) (by omega)), nI_clamp (by omega), hs y (by omega), nI_1, hm]
      cases hsy : su y with
      | none =>
        have e3 : (sI σ 14 (nI (mskN su y) ||| 0)).2.1 3 y = -9 := by
          show σ.2.1 3 y = -9
          rw [hs y (by omega), hsy]
          rfl
        rw [if_pos (show sunI none = -9 from rfl), nm_go, if_pos e3, nm_go, ior0, msk_z hsy]
        rfl
      | some u =>
        have hu := hv y u hsy
        have e3 : (sI σ 14 (nI (mskN su y) ||| ((1 : Int32) <<< (nI y &&& 31)))).2.1 3 y = nI u := by
          show σ.2.1 3 y = nI u
          rw [hs y (by omega), hsy]
          rfl
        rw [if_neg (show ¬ sunI (some u) = -9 from n9 (by omega)), nm_go, e3, if_neg (n9 (by omega)), nm_go, msk_s (by omega) hsy]
        rfl
    obtain ⟨σ', h1, h2, h3, h4, h5, h6⟩ := ih m (y + 1) (sA (sI σ 14 (nI (mskN su (y + 1)))) 10 y (nI ((su y).getD 0))) (by omega) (by omega) (fun z hz => hs z hz) rfl
    refine ⟨σ', st.trans h1, fun k hk => ?_, h3, fun k hk => ?_, fun j hj => ?_, fun j ha hb => ?_⟩
    · rw [h2 k hk, st_A1, st_I1, if_neg hk]
    · rw [h4 k hk, st_A2, if_neg hk]
      rfl
    · rw [h5 j (by omega), aA_at, if_pos rfl, if_neg (by omega)]
      rfl
    · by_cases c : j = y
      · rw [h5 j (by omega), aA_at, if_pos rfl, if_pos c, c]
      · exact h6 j (by omega) hb
theorem plM {d : DD} {σ0 σ : ST} (h : fX11_readText FU σ0 = some (-9, σ)) (hd : RD d σ) (hv : vD d) : ∃ σ' : ST, fX11_place FU σ0 = some (nI d.1.length, σ') ∧ RB3 d.1 (σ'.1 11) (σ'.2.1 7) ∧ RG3 d.2.1 d.2.2.1 d.2.2.2 (σ'.1 12) (σ'.1 13) (σ'.1 14) (σ'.2.1 8) (σ'.2.1 9) (σ'.2.1 10) ∧ σ'.1 19 = 0 ∧ σ'.2.1 32 0 = 0 ∧ σ'.2.1 32 1 = 0 ∧ (∀ k, k ≠ 11 → k ≠ 12 → k ≠ 13 → k ≠ 14 → k ≠ 19 → σ'.1 k = σ.1 k) ∧ ∀ k, k ≠ 7 → k ≠ 8 → k ≠ 9 → k ≠ 10 → k ≠ 32 → σ'.2.1 k = σ.2.1 k := by
  obtain ⟨hb, ⟨hn, hh⟩, ⟨hcn, hcl⟩, hsu⟩ := hd
  obtain ⟨⟨v1, _⟩, ⟨v2, _, v3, _, v5⟩, _⟩ := id hv
  obtain ⟨σ1, a1, a2, a3, a4, a5⟩ := p38_loop (F := FU) 24 FU 0 (sI (sI (sI σ 11 (σ.1 4)) 12 (σ.1 5)) 13 (σ.1 6)) (by omega) (by unfold FU; omega)
  obtain ⟨σ2, b1, b2, b3, b4, b5⟩ := p64_loop (F := FU) 12 FU 0 σ1 (by omega) (by unfold FU; omega)
  obtain ⟨σ3, c1, c2, c3, c4, c5⟩ := p90_loop (F := FU) 16 FU 0 σ2 (by omega) (by unfold FU; omega)
  have s3 : ∀ z, z < 6 → (sI σ3 14 0).2.1 3 z = sunI (d.2.2.2 z) := fun z hz => by
    show σ3.2.1 3 z = _
    rw [c3 3 (by omega), b3 3 (by omega), a3 3 (by omega)]
    exact hsu z hz
  obtain ⟨σ4, e1, e2, e3, e4, e5, e6⟩ := p121_loop (F := FU) (su := d.2.2.2) v5 6 FU 0 (sI σ3 14 0) (by omega) (by unfold FU; omega) s3 rfl
  rw [show nI 0 = (0 : Int32) from rfl] at a1 b1 c1 e1
  have i3 : σ3.1 = (sI (sI (sI σ 11 (σ.1 4)) 12 (σ.1 5)) 13 (σ.1 6)).1 := by rw [c2, b2, a2]
  have k4 : ∀ k, k ≠ 14 → σ4.1 k = (sI (sI (sI σ 11 (σ.1 4)) 12 (σ.1 5)) 13 (σ.1 6)).1 k := fun k hk => by
    rw [e2 k hk, st_I1, if_neg hk, i3]
  have i11 : σ4.1 11 = nI d.1.length := (k4 11 (by omega)).trans hb.1
  refine ⟨sA (sA (sI σ4 19 0) 32 0 0) 32 1 0, ?_, ?_, ⟨⟨?_, fun i q hi => ?_⟩, ⟨?_, fun i q hi => ?_⟩, ?_, fun y hy => ?_⟩, rfl, ?_, ?_, fun k x11 x12 x13 x14 x19 => ?_, fun k x7 x8 x9 x10 x32 => ?_⟩
  · unfold fX11_place
    rw [h, bd_some]
    dsimp only
    rw [if_pos rfl, nm_go, nm_go, nm_go]
    show ((gX11_place_38 FU FU 0 (sI (sI (sI σ 11 (σ.1 4)) 12 (σ.1 5)) 13 (σ.1 6))).bind _) = _
    rw [a1, bd_some]
    dsimp only
    rw [b1, bd_some]
    dsimp only
    rw [c1, bd_some]
    dsimp only
    rw [nm_go, e1, bd_some, nm_go, nm_go, nm_go, show vp_nar .boolean (0 : Int32) = 0 from rfl]
    show some (σ4.1 11, _) = _
    rw [i11]
    rfl
  · refine RB3_cong hb v1 (i11.trans hb.1.symm) (fun i hi => ?_)
    show σ4.2.1 7 i = _
    rw [e4 7 (by omega)]
    show σ3.2.1 7 i = _
    rw [c3 7 (by omega), b3 7 (by omega), a5 i (by omega) hi]
    rfl
  · show σ4.1 12 = _
    rw [k4 12 (by omega)]
    exact hn
  · have hil := (List.getElem?_eq_some_iff.mp hi).1
    have e8 : ∀ j, j < 12 → (sA (sA (sI σ4 19 0) 32 0 0) 32 1 0).2.1 8 j = σ.2.1 1 j := fun j hj => by
      show σ4.2.1 8 j = _
      rw [e4 8 (by omega)]
      show σ3.2.1 8 j = _
      rw [c3 8 (by omega), b5 j (by omega) hj, a3 1 (by omega)]
      rfl
    obtain ⟨q0, q1, q2, q3⟩ := hh i q hi
    exact ⟨(e8 _ (by omega)).trans q0, (e8 _ (by omega)).trans q1, (e8 _ (by omega)).trans q2, (e8 _ (by omega)).trans q3⟩
  · show σ4.1 13 = _
    rw [k4 13 (by omega)]
    exact hcn
  · have hil := (List.getElem?_eq_some_iff.mp hi).1
    have e9 : ∀ j, j < 16 → (sA (sA (sI σ4 19 0) 32 0 0) 32 1 0).2.1 9 j = σ.2.1 2 j := fun j hj => by
      show σ4.2.1 9 j = _
      rw [e4 9 (by omega)]
      show σ3.2.1 9 j = _
      rw [c5 j (by omega) hj, b3 2 (by omega), a3 2 (by omega)]
      rfl
    obtain ⟨q0, q1, q2, q3⟩ := hcl i q hi
    exact ⟨(e9 _ (by omega)).trans q0, (e9 _ (by omega)).trans q1, (e9 _ (by omega)).trans q2, (e9 _ (by omega)).trans q3⟩
  · exact e3
  · exact e6 y (by omega) hy
  · rw [aA_at, if_pos rfl, if_neg (by omega), aA_at, if_pos rfl, if_pos rfl]
  · rw [aA_at, if_pos rfl, if_pos rfl]
  · rw [st_A1, st_A1, st_I1, if_neg x19, k4 k x14, st_I1, if_neg x13, st_I1, if_neg x12, st_I1, if_neg x11]
  · rw [st_A2, if_neg x32, st_A2, if_neg x32]
    show σ4.2.1 k = _
    rw [e4 k x10]
    show σ3.2.1 k = _
    rw [c3 k x9, b3 k x8, a3 k x7]
    rfl
/-- the class: the draft becomes the field -/
theorem cgh_step {F i N : Nat} {σo σ : ST} {rc : Int32 → ST → Option (Int32 × ST)} (h : σ.1 3 = nI N) (hi : i < N) (hN : N ≤ 3) : gbX4_copyFrom_10 F σo rc (nI i) σ = rc (nI (i + 1)) (sW σ (10 + i) (va_cpy (σo.2.1 (10 + i)) (σ.2.1 (10 + i)) 0 0 4)) := by
  unfold gbX4_copyFrom_10
  rw [h, if_neg (nI_ge hi (by omega)), nI_1]
  rcases (show i = 0 ∨ i = 1 ∨ i = 2 by omega) with rfl | rfl | rfl
  · rw [if_pos (show nI 0 = 0 from rfl)]
    rfl
  · rw [if_neg (show ¬ nI 1 = 0 by decide), if_pos (show nI 1 = 1 from rfl)]
    rfl
  · rw [if_neg (show ¬ nI 2 = 0 by decide), if_neg (show ¬ nI 2 = 1 by decide), if_pos (show nI 2 = 2 from rfl)]
    rfl
theorem cgc_step {F i N : Nat} {σo σ : ST} {rc : Int32 → ST → Option (Int32 × ST)} (h : σ.1 4 = nI N) (hi : i < N) (hN : N ≤ 4) : gbX4_copyFrom_49 F σo rc (nI i) σ = rc (nI (i + 1)) (sW σ (20 + i) (va_cpy (σo.2.1 (20 + i)) (σ.2.1 (20 + i)) 0 0 4)) := by
  unfold gbX4_copyFrom_49
  rw [h, if_neg (nI_ge hi (by omega)), nI_1]
  rcases (show i = 0 ∨ i = 1 ∨ i = 2 ∨ i = 3 by omega) with rfl | rfl | rfl | rfl
  · rw [if_pos (show nI 0 = 0 from rfl)]
    rfl
  · rw [if_neg (show ¬ nI 1 = 0 by decide), if_pos (show nI 1 = 1 from rfl)]
    rfl
  · rw [if_neg (show ¬ nI 2 = 0 by decide), if_neg (show ¬ nI 2 = 1 by decide), if_pos (show nI 2 = 2 from rfl)]
    rfl
  · rw [if_neg (show ¬ nI 3 = 0 by decide), if_neg (show ¬ nI 3 = 1 by decide), if_neg (show ¬ nI 3 = 2 by decide), if_pos (show nI 3 = 3 from rfl)]
    rfl
theorem cgh_loop {F N : Nat} {σo : ST} (hN : N ≤ 3) : ∀ (r n i : Nat) (σ : ST), σ.1 3 = nI N → i + r = N → r < n → ∃ σ' : ST, gX4_copyFrom_10 F σo n (nI i) σ = some (nI N, σ') ∧ σ'.1 = σ.1 ∧ (∀ k, k < 10 + i ∨ 10 + N ≤ k → σ'.2.1 k = σ.2.1 k) ∧ ∀ j, i ≤ j → j < N → ∀ t, t < 4 → σ'.2.1 (10 + j) t = σo.2.1 (10 + j) t := by
  intro r
  induction r with
  | zero =>
    intro n i σ hs hi hn
    obtain ⟨m, rfl⟩ : ∃ m, n = m + 1 := ⟨n - 1, by omega⟩
    refine ⟨σ, ?_, rfl, fun _ _ => rfl, fun j h1 h2 => by omega⟩
    show gbX4_copyFrom_10 F σo _ (nI i) σ = _
    unfold gbX4_copyFrom_10
    rw [hs, if_pos (nI_le (by omega) (by omega)), show i = N by omega]
  | succ r ih =>
    intro n i σ hs hi hn
    obtain ⟨m, rfl⟩ : ∃ m, n = m + 1 := ⟨n - 1, by omega⟩
    obtain ⟨σ', h1, h2, h3, h4⟩ := ih m (i + 1) (sW σ (10 + i) (va_cpy (σo.2.1 (10 + i)) (σ.2.1 (10 + i)) 0 0 4)) hs (by omega) (by omega)
    refine ⟨σ', ?_, h2, fun k hk => ?_, fun j ha hb t ht => ?_⟩
    · show gbX4_copyFrom_10 F σo (gX4_copyFrom_10 F σo m) (nI i) σ = _
      rw [cgh_step hs (by omega) hN]
      exact h1
    · rw [h3 k (by omega), st_W2, if_neg (by omega)]
    · by_cases c : j = i
      · rw [c, h3 (10 + i) (by omega), st_W2, if_pos rfl]
        have := cpy_ta (f := σo.2.1 (10 + i)) (g := σ.2.1 (10 + i)) (a := 0) ht
        rw [Nat.zero_add] at this
        exact this
      · exact h4 j (by omega) hb t ht
theorem cgc_loop {F N : Nat} {σo : ST} (hN : N ≤ 4) : ∀ (r n i : Nat) (σ : ST), σ.1 4 = nI N → i + r = N → r < n → ∃ σ' : ST, gX4_copyFrom_49 F σo n (nI i) σ = some (nI N, σ') ∧ σ'.1 = σ.1 ∧ (∀ k, k < 20 + i ∨ 20 + N ≤ k → σ'.2.1 k = σ.2.1 k) ∧ ∀ j, i ≤ j → j < N → ∀ t, t < 4 → σ'.2.1 (20 + j) t = σo.2.1 (20 + j) t := by
  intro r
  induction r with
  | zero =>
    intro n i σ hs hi hn
    obtain ⟨m, rfl⟩ : ∃ m, n = m + 1 := ⟨n - 1, by omega⟩
    refine ⟨σ, ?_, rfl, fun _ _ => rfl, fun j h1 h2 => by omega⟩
    show gbX4_copyFrom_49 F σo _ (nI i) σ = _
    unfold gbX4_copyFrom_49
    rw [hs, if_pos (nI_le (by omega) (by omega)), show i = N by omega]
  | succ r ih =>
    intro n i σ hs hi hn
    obtain ⟨m, rfl⟩ : ∃ m, n = m + 1 := ⟨n - 1, by omega⟩
    obtain ⟨σ', h1, h2, h3, h4⟩ := ih m (i + 1) (sW σ (20 + i) (va_cpy (σo.2.1 (20 + i)) (σ.2.1 (20 + i)) 0 0 4)) hs (by omega) (by omega)
    refine ⟨σ', ?_, h2, fun k hk => ?_, fun j ha hb t ht => ?_⟩
    · show gbX4_copyFrom_49 F σo (gX4_copyFrom_49 F σo m) (nI i) σ = _
      rw [cgc_step hs (by omega) hN]
      exact h1
    · rw [h3 k (by omega), st_W2, if_neg (by omega)]
    · by_cases c : j = i
      · rw [c, h3 (20 + i) (by omega), st_W2, if_pos rfl]
        have := cpy_ta (f := σo.2.1 (20 + i)) (g := σ.2.1 (20 + i)) (a := 0) ht
        rw [Nat.zero_add] at this
        exact this
      · exact h4 j (by omega) hb t ht
theorem at4_c {q : H4} {f g : Nat → Int32} (h : at4 q f 0) (e : ∀ t, t < 4 → g t = f t) : at4 q g 0 := ⟨(e 0 (by omega)).trans h.1, (e 1 (by omega)).trans h.2.1, (e 2 (by omega)).trans h.2.2.1, (e 3 (by omega)).trans h.2.2.2⟩
theorem cpG {hl cl : List H4} {su : Nat → Option Nat} {σ σo : ST} (hv : vG hl cl su) (h : RG hl cl su σo) : ∃ σ' : ST, fX4_copyFrom FU σ σo = some σ' ∧ RG hl cl su σ' := by
  obtain ⟨⟨hn, hh⟩, ⟨hcn, hcl⟩, hm, hsu⟩ := h
  obtain ⟨v1, _, v3, _, _⟩ := hv
  obtain ⟨σ1, a1, a2, a3, a4⟩ := cgh_loop (F := FU) (σo := σo) v1 hl.length FU 0 (sI σ 3 (σo.1 3)) hn (by omega) (by unfold FU; omega)
  obtain ⟨σ2, b1, b2, b3, b4⟩ := cgc_loop (F := FU) (σo := σo) v3 cl.length FU 0 (sI σ1 4 (σo.1 4)) hcn (by omega) (by unfold FU; omega)
  rw [show nI 0 = (0 : Int32) from rfl] at a1 b1
  refine ⟨sW (sI σ2 5 (σo.1 5)) 2 (va_cpy (σo.2.1 2) (σ2.2.1 2) 0 0 6), ?_, ⟨?_, fun i q hi => ?_⟩, ⟨?_, fun i q hi => ?_⟩, hm, fun y m hy hs => ?_⟩
  · unfold fX4_copyFrom
    rw [nm_go, a1, bd_some]
    dsimp only
    rw [nm_go, b1, bd_some]
    rfl
  · show σ2.1 3 = _
    rw [b2]
    show σ1.1 3 = _
    rw [a2]
    exact hn
  · have hil := (List.getElem?_eq_some_iff.mp hi).1
    refine at4_c (hh i q hi) (fun t ht => ?_)
    rw [st_W2, if_neg (by omega)]
    show σ2.2.1 (10 + i) t = _
    rw [b3 (10 + i) (by omega)]
    exact a4 i (by omega) hil t ht
  · show σ2.1 4 = _
    rw [b2]
    exact hcn
  · have hil := (List.getElem?_eq_some_iff.mp hi).1
    refine at4_c (hcl i q hi) (fun t ht => ?_)
    rw [st_W2, if_neg (by omega)]
    exact b4 i (by omega) hil t ht
  · rw [st_W2, if_pos rfl]
    have := cpy_ta (f := σo.2.1 2) (g := σ2.2.1 2) (a := 0) hy
    rw [Nat.zero_add] at this
    exact this.trans (hsu y m hy hs)
theorem pl42 {σt σe σb2 σd2 σb σd σa σ0 σ1 : ST} (n : Nat) : gX10_place_42 FU σt σe σb2 σd2 σb σd σa (n + 3) 0 σ0 σ1 = some (2, sI σ0 2 0, sI σ1 2 0) := by
  have s0 : ∀ (k : Nat) (v : Int32) (a b : ST), gX10_place_42 FU σt σe σb2 σd2 σb σd σa (k + 1) v a b = gbX10_place_42 FU σt σe σb2 σd2 σb σd σa (gX10_place_42 FU σt σe σb2 σd2 σb σd σa k) v a b := fun _ _ _ _ => rfl
  rw [s0]
  unfold gbX10_place_42
  rw [if_neg (by decide), if_pos rfl, nm_go, s0]
  unfold gbX10_place_42
  rw [if_neg (by decide), if_neg (by decide), if_pos (by decide), nm_go, s0]
  unfold gbX10_place_42
  rw [if_pos (by decide)]
  rfl
theorem st_place : St_place Inv := by
  intro S hI
  obtain ⟨⟨len, tx, t1, t2, t3, t4⟩, ⟨bl, hv, hb, hm, ⟨al, hs, -, -, hAm⟩⟩, hG, hS, hK0, hK1⟩ := id hI
  obtain ⟨r, σe, σb, σd, g1, g2, g3⟩ := ffC (S 2) (S 4) (S 5) (σt := S 1) (len := len) (tx := tx) ⟨t1, t2, fun i hi => ⟨(t4 i hi).1, (t4 i hi).2.1⟩⟩
  obtain ⟨r', σ', k1, k2, k3⟩ := rtM (σ := S 20) (len := len) (tx := tx) ⟨t1, t3, fun i hi => ⟨(t4 i hi).1, (t4 i hi).2.2⟩⟩
  unfold fX10_place
  rw [g1, bd_some]
  dsimp only
  cases ht : txtO len tx with
  | inl f =>
    obtain ⟨f1, f2⟩ := k3.1 f ht
    have hr := g2 f ht
    have n1 : ¬ r = -9 := by
      rw [hr]
      exact n9 (by omega)
    have n2 : ¬ r' = -9 := by
      rw [f2]
      exact n9 (by omega)
    unfold fX11_place
    rw [if_neg n1, k1, bd_some, if_neg n2]
    exact ⟨_, _, rfl, rfl, rfl, inv_k hI rfl rfl rfl rfl rfl rfl rfl rfl rfl rfl rfl k2⟩
  | inr d =>
    obtain ⟨h9, hd, hvd⟩ := k3.2 d ht
    obtain ⟨h9', hc⟩ := g3 d ht
    rw [h9] at k1
    obtain ⟨σ2, m1, m2, m3, m4, m5, m6, m7, m8⟩ := plM k1 hd hvd
    obtain ⟨σb', c1, c2⟩ := cpB (σ := S 7) hc.1 hvd.1.1
    obtain ⟨σd', e1, e2⟩ := cpG (σ := S 8) hvd.2.1 hc.2
    have hcp : fX2_copyFrom FU (S 7) (S 8) σb σd = some (σb', σd') := by
      unfold fX2_copyFrom
      rw [c1, bd_some, e1, bd_some]
    have i (k : Nat) (hk4 : 6 < k) (h11 : k ≠ 11) (h12 : k ≠ 12) (h13 : k ≠ 13) (h14 : k ≠ 14) (h19 : k ≠ 19) (h17 : k ≠ 17) (h18 : k ≠ 18) : σ2.1 k = (S 20).1 k := (m7 k h11 h12 h13 h14 h19).trans (k2.1 k (by omega) (by omega) (by omega) h17 h18)
    have a (k : Nat) (hk4 : 10 < k) (h32 : k ≠ 32) : σ2.2.1 k = (S 20).2.1 k := (m8 k (by omega) (by omega) (by omega) (by omega) h32).trans (k2.2 k (by omega))
    rw [if_pos h9', hcp, bd_some, show fX0_forget FU (S 9) = some (sI (sI (S 9) 5 0) 6 0) from rfl, bd_some, show FU = 99997 + 3 from rfl]
    rw [show gX10_place_42 (99997 + 3) = gX10_place_42 FU from rfl, pl42 99997, bd_some]
    refine ⟨_, _, rfl, m1, c2.1, ?_⟩
    refine ⟨⟨len, tx, t1, t2, ?_, fun j hj => ⟨(t4 j hj).1, (t4 j hj).2.1, ?_⟩⟩, ⟨d.1, hvd.1, c2, m2, ?_⟩, ⟨d.2.1, d.2.2.1, d.2.2.2, hvd.2.1, e2, m3⟩, ?_, Or.inl ⟨rfl, m5⟩, Or.inl ⟨rfl, m6⟩⟩
    · show σ2.1 16 = _
      rw [i 16 (by omega) (by omega) (by omega) (by omega) (by omega) (by omega) (by omega) (by omega)]
      exact t3
    · show σ2.2.1 15 j = _
      rw [a 15 (by omega) (by omega)]
      exact (t4 j hj).2.2
    · show PA d.1 (sI (sI (S 9) 5 0) 6 0) (σ2.1 19) (σ2.1 20) (σ2.2.1 21)
      rw [m4, i 20 (by omega) (by omega) (by omega) (by omega) (by omega) (by omega) (by omega) (by omega), a 21 (by omega) (by omega)]
      exact agP (σ := S 20) hAm
    · show ∃ sl : List (Nat × Nat), vS sl ∧ RS sl ((S 11).1 2) ((S 11).2.1 0) ((S 11).2.1 1) ∧ RS sl (σ2.1 23) (σ2.2.1 24) (σ2.2.1 25)
      rw [i 23 (by omega) (by omega) (by omega) (by omega) (by omega) (by omega) (by omega) (by omega), a 24 (by omega) (by omega), a 25 (by omega) (by omega)]
      exact hS
