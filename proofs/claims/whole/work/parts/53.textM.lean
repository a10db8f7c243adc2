/-! the reference reads the text -/
def rst (len : Nat) (tx : Nat → Nat) : Nat → DD → Nat → Sum Nat DD
  | 0, _, p => .inl p
  | n + 1, d, p => if len ≤ p then .inr d else match partO len tx d p with
    | .inl f => .inl f
    | .inr (d', p') => rst len tx n d' p'
theorem rst_e {len : Nat} {tx : Nat → Nat} {n : Nat} {d : DD} {p : Nat} (h : len ≤ p) : rst len tx (n + 1) d p = .inr d := by
  show (if len ≤ p then (.inr d : Sum Nat DD) else _) = _
  rw [if_pos h]
theorem rst_l {len : Nat} {tx : Nat → Nat} {n : Nat} {d : DD} {p f : Nat} (h : ¬ len ≤ p) (e : partO len tx d p = .inl f) : rst len tx (n + 1) d p = .inl f := by
  show (if len ≤ p then (.inr d : Sum Nat DD) else match partO len tx d p with
    | .inl f => .inl f
    | .inr (d', p') => rst len tx n d' p') = _
  rw [if_neg h, e]
theorem rst_r {len : Nat} {tx : Nat → Nat} {n : Nat} {d d' : DD} {p p' : Nat} (h : ¬ len ≤ p) (e : partO len tx d p = .inr (d', p')) : rst len tx (n + 1) d p = rst len tx n d' p' := by
  show (if len ≤ p then (.inr d : Sum Nat DD) else match partO len tx d p with
    | .inl f => .inl f
    | .inr (d', p') => rst len tx n d' p') = _
  rw [if_neg h, e]
theorem rpk_t {a b c : ST} (h1 : rpk a b) (h2 : rpk b c) : rpk a c := ⟨fun k x4 x5 x6 x17 x18 => (h2.1 k x4 x5 x6 x17 x18).trans (h1.1 k x4 x5 x6 x17 x18), fun k h => (h2.2 k h).trans (h1.2 k h)⟩
def rtR (len : Nat) (r : Sum Nat DD) (v : Int32) (σ' : ST) : Prop := (∀ f, r = .inl f → f ≤ len ∧ v = nI f) ∧ ∀ d', r = .inr d' → v = -9 ∧ RD d' σ' ∧ vD d'
theorem rt_loop {len : Nat} {tx : Nat → Nat} {v1 : Int32} : ∀ (n : Nat) (d : DD) (p : Nat) (σ : ST) (N : Nat), TX len tx σ → RD d σ → vD d → σ.1 18 = -9 → σ.1 17 = nI p → p ≤ len → len - p < n → n < N → ∃ σ', gX11_readText_73 FU v1 N σ = some σ' ∧ rpk σ σ' ∧ rtR len (rst len tx n d p) (σ'.1 18) σ' := by
  intro n
  induction n with
  | zero =>
    intro d p σ N _ _ _ _ _ _ h _
    omega
  | succ n ih =>
    intro d p σ N hX hd hv h18 h17 hp hn hN
    obtain ⟨M, rfl⟩ : ∃ m, N = m + 1 := ⟨N - 1, by omega⟩
    have h92 := hX.1
    have e : gX11_readText_73 FU v1 (M + 1) σ = gbX11_readText_73 FU v1 (gX11_readText_73 FU v1 M) σ := rfl
    rw [e]
    unfold gbX11_readText_73
    rw [if_pos h18, hX.2.1, h17]
    by_cases c : len ≤ p
    · rw [if_pos (nI_le c (by omega)), rst_e c]
      refine ⟨σ, rfl, ⟨fun _ _ _ _ _ _ => rfl, fun _ _ => rfl⟩, fun f e => (by cases e), fun d' e => ?_⟩
      cases e
      exact ⟨h18, hd, hv⟩
    · obtain ⟨σ', g1, g2, g3⟩ := rp_part hX hd hv h18 h17 (show p < len by omega)
      rw [if_neg (nI_ge (by omega) (by omega)), if_neg (nI_in (show p < 92 by omega) (by omega)), nI_clamp (by omega), (hX.2.2 p (by omega)).2, g1, bd_some]
      cases hq : partO len tx d p with
      | inl f =>
        obtain ⟨k1, k2⟩ := g3.1 f hq
        rw [rst_l c hq]
        obtain ⟨K, rfl⟩ : ∃ m, M = m + 1 := ⟨M - 1, by omega⟩
        refine ⟨σ', ?_, g2, fun f' e => ?_, fun _ e => by cases e⟩
        · show gbX11_readText_73 FU v1 _ σ' = _
          unfold gbX11_readText_73
          rw [if_neg (by rw [k2]; exact n9 (by omega))]
        · cases e
          exact ⟨k1, k2⟩
      | inr q =>
        obtain ⟨d', p'⟩ := q
        obtain ⟨k1, k2, k3⟩ := g3.2 d' p' hq
        obtain ⟨v1, v2, v3⟩ := par_v (by omega) hv hq
        rw [rst_r c hq]
        obtain ⟨σ2, l1, l2, l3⟩ := ih d' p' σ' M (TX_f hX (g2.1 16 (by omega) (by omega) (by omega) (by omega) (by omega)) (g2.2 15 (by omega))) k3 v1 k1 k2 v3 (by omega) (by omega)
        exact ⟨σ2, l1, rpk_t g2 l2, l3⟩
theorem s28_loop {F : Nat} : ∀ (r n y : Nat) (σ : ST), y + r = 6 → r < n → ∃ σ' : ST, gX11_readText_28 F n (nI y) σ = some (nI 6, σ') ∧ σ'.1 = σ.1 ∧ (∀ k, k ≠ 3 → σ'.2.1 k = σ.2.1 k) ∧ (∀ j, j < y → σ'.2.1 3 j = σ.2.1 3 j) ∧ ∀ j, y ≤ j → j < 6 → σ'.2.1 3 j = -9 := by
  intro r
  induction r with
  | zero =>
    intro n y σ hy hn
    obtain ⟨m, rfl⟩ : ∃ m, n = m + 1 := ⟨n - 1, by omega⟩
    have e : y = 6 := by omega
    subst e
    refine ⟨σ, ?_, rfl, fun _ _ => rfl, fun _ _ => rfl, fun j h1 h2 => by omega⟩
    show gbX11_readText_28 F _ (nI 6) σ = _
    unfold gbX11_readText_28
    rw [if_pos (by decide)]
  | succ r ih =>
    intro n y σ hy hn
    obtain ⟨m, rfl⟩ : ∃ m, n = m + 1 := ⟨n - 1, by omega⟩
    obtain ⟨σ', h1, h2, h3, h4, h5⟩ := ih m (y + 1) (sA σ 3 y (-9)) (by omega) (by omega)
    refine ⟨σ', ?_, h2, fun k hk => ?_, fun j hj => ?_, fun j ha hb => ?_⟩
    · show gbX11_readText_28 F (gX11_readText_28 F m) (nI y) σ = _
      unfold gbX11_readText_28
      rw [if_neg (show ¬ (6 : Int32) ≤ nI y from nI_ge (a := y) (b := 6) (by omega) (by omega)), if_neg (nI_in (show y < 6 by omega) (by omega)), nI_clamp (by omega), nm_go, nI_1]
      exact h1
    · rw [h3 k hk, st_A2, if_neg hk]
    · rw [h4 j (by omega), aA_at, if_pos rfl, if_neg (by omega)]
    · by_cases c : j = y
      · rw [h4 j (by omega), aA_at, if_pos rfl, if_pos c]
      · exact h5 j (by omega) hb
def d0 : DD := ([], [], [], fun _ => none)
theorem vD_0 : vD d0 := ⟨⟨by simp [d0], fun q h => by simp [d0] at h⟩, ⟨by simp [d0], fun q h => by simp [d0] at h, by simp [d0], fun q h => by simp [d0] at h, fun y m h => by simp [d0] at h⟩, by simp [d0]⟩
def txtO (len : Nat) (tx : Nat → Nat) : Sum Nat DD := if len = 0 then .inl 0 else if tx 0 = 71 then rst len tx 93 d0 1 else .inl 0
theorem rtM {len : Nat} {tx : Nat → Nat} {σ : ST} (hX : TX len tx σ) : ∃ (r : Int32) (σ' : ST), fX11_readText FU σ = some (r, σ') ∧ rpk σ σ' ∧ rtR len (txtO len tx) r σ' := by
  have h92 := hX.1
  obtain ⟨σ0, g1, g2, g3, g4, g5⟩ := s28_loop (F := FU) 6 FU 0 (sI (sI (sI (sI (sI σ 17 0) 18 (-9)) 4 0) 5 0) 6 0) (by omega) (by unfold FU; omega)
  rw [show nI 0 = (0 : Int32) from rfl] at g1
  have hk0 : ∀ k, k ≠ 4 → k ≠ 5 → k ≠ 6 → k ≠ 17 → k ≠ 18 → σ0.1 k = σ.1 k := fun k a b c x y => by
    rw [g2, st_I1, if_neg c, st_I1, if_neg b, st_I1, if_neg a, st_I1, if_neg y, st_I1, if_neg x]
  have ha0 : ∀ k, 4 ≤ k → σ0.2.1 k = σ.2.1 k := fun k hk => g3 k (by omega)
  have hr0 : rpk σ σ0 := ⟨hk0, ha0⟩
  have h16 : σ0.1 16 = nI len := (hk0 16 (by omega) (by omega) (by omega) (by omega) (by omega)).trans hX.2.1
  have hno : ∃ (r : Int32) (σ' : ST), some ((0 : Int32), σ0) = some (r, σ') ∧ rpk σ σ' ∧ rtR len (.inl 0) r σ' := by
    refine ⟨_, _, rfl, hr0, fun f e => ?_, fun _ e => by cases e⟩
    cases e
    exact ⟨by omega, rfl⟩
  unfold fX11_readText
  rw [nm_go, nm_go, nm_go, nm_go, nm_go, g1, bd_some]
  dsimp only
  rw [h16]
  unfold txtO
  by_cases hl : len = 0
  · rw [if_pos hl, hl, if_pos (show nI 0 = 0 from rfl)]
    rw [hl] at hno
    exact hno
  · rw [if_neg hl, if_neg (show ¬ nI len = 0 from fun e => hl ((nI_eq (b := 0) (by omega) (by omega)).mp e))]
    have h15 : σ0.2.1 15 (0 : Int32).toNatClampNeg = nI (tx 0) := by
      rw [ha0 15 (by omega)]
      exact (hX.2.2 0 (by omega)).2
    rw [h15]
    by_cases h71 : tx 0 = 71
    · rw [if_pos h71, h71, if_pos (show nI 71 = 71 from rfl), nm_go]
      have hX1 : TX len tx (sI σ0 17 1) := TX_f hX (h16.trans hX.2.1.symm) (ha0 15 (by omega))
      have hd1 : RD d0 (sI σ0 17 1) := by
        refine ⟨⟨?_, fun i q h => by simp [d0] at h⟩, ⟨?_, fun i q h => by simp [d0] at h⟩, ⟨?_, fun i q h => by simp [d0] at h⟩, fun y hy => ?_⟩
        · show σ0.1 4 = _
          rw [g2]
          rfl
        · show σ0.1 5 = _
          rw [g2]
          rfl
        · show σ0.1 6 = _
          rw [g2]
          rfl
        · exact g5 y (by omega) hy
      have h181 : (sI σ0 17 1).1 18 = -9 := by
        show σ0.1 18 = -9
        rw [g2]
        rfl
      obtain ⟨σ', l1, l2, l3⟩ := rt_loop (v1 := nI 6) 93 d0 1 (sI σ0 17 1) FU hX1 hd1 vD_0 h181 rfl (by omega) (by omega) (by unfold FU; omega)
      rw [l1, bd_some]
      have hr1 : rpk σ0 (sI σ0 17 1) := ⟨fun k _ _ _ a _ => by rw [st_I1, if_neg a], fun _ _ => rfl⟩
      exact ⟨_, _, rfl, rpk_t hr0 (rpk_t hr1 l2), l3⟩
    · rw [if_neg h71, if_neg (show ¬ nI (tx 0) = 71 from fun e => h71 ((nI_eq (b := 71) (by have := (hX.2.2 0 (by omega)).1; omega) (by omega)).mp e))]
      exact hno
