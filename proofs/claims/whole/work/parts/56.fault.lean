/-! the class reads the text; fault -/
def TC (len : Nat) (tx : Nat → Nat) (σ : ST) : Prop := len ≤ 92 ∧ σ.1 1 = nI len ∧ ∀ i, i < len → tx i < 256 ∧ (σ.2.1 0 i) &&& 255 = nI (tx i)
def clR (len : Nat) (r : Sum Nat DD) (z : Nat × Int32 × ST × ST × ST) : Prop := (∀ f, r = .inl f → f ≤ len ∧ ((z.1 = 49 ∧ z.2.1 = nI f) ∨ (z.1 = 57 ∧ f = len ∧ z.2.2.1.1 4 = 1 ∧ ¬ z.2.2.1.1 3 = 0))) ∧ ∀ d, r = .inr d → z.1 = 57 ∧ z.2.2.1.1 4 = 1 ∧ z.2.2.1.1 3 = 0 ∧ RC d z.2.2.2.1 z.2.2.2.2
def cnt (len : Nat) (tx : Nat → Nat) (n : Nat) (d : DD) (L : Nat) : SP → Sum Nat DD
  | .inl f => .inl f
  | .inr (told, p') => rst len tx n (addL d L told) p'
theorem rst_c {len : Nat} {tx : Nat → Nat} {n : Nat} {d : DD} {p : Nat} (h : ¬ len ≤ p) (ho : opB d (tx p) = true) : rst len tx (n + 1) d p = cnt len tx n d (tx p) (itp len tx (vfL (tx p)) (okL d (tx p)) (kL (tx p)) (.inr ([], p + 1))) := by
  have e := par_y (len := len) ho
  cases hs : itp len tx (vfL (tx p)) (okL d (tx p)) (kL (tx p)) (.inr ([], p + 1)) with
  | inl f =>
    rw [hs] at e
    exact rst_l h e
  | inr q =>
    obtain ⟨told, p'⟩ := q
    rw [hs] at e
    exact rst_r h e
theorem clR_49 {len p : Nat} {σe σb σd : ST} (hp : p ≤ len) : clR len (.inl p) (49, nI p, σe, σb, σd) := ⟨fun f e => by cases e; exact ⟨hp, Or.inl ⟨rfl, rfl⟩⟩, fun _ e => by cases e⟩
theorem cl_part {len : Nat} {tx : Nat → Nat} {σt : ST} {d : DD} {L n : Nat} (hT : TC len tx σt) (hv : vD d) (ho : opB d L = true) (IH : ∀ (d : DD) (p : Nat) (σe σb σd : ST) (N : Nat), vD d → RC d σb σd → σe.1 4 = 1 → σe.1 3 = 0 → σe.1 2 = 0 → p ≤ len → len - p < n → len - p < N → ∃ z, gX5_firstFault_24 FU σt N (nI p) σe σb σd = some z ∧ clR len (rst len tx n d p) z) : ∀ (k : Nat) (told : List Nat) (p : Nat) (σe σb σd : ST) (N : Nat), told.length + k = kL L → 0 < k → RE σe L told → RC d σb σd → (∀ i v, told[i]? = some v → okL d L (told.take i) v = true) → p ≤ len → len - p ≤ n → len - p < N → (p < len → len - p - 1 < n) → ∃ z, gX5_firstFault_24 FU σt N (nI p) σe σb σd = some z ∧ clR len (cnt len tx n d L (itp len tx (vfL L) (okL d L) k (.inr (told, p)))) z := by
  obtain ⟨h92, hs, hb⟩ := hT
  have hL : L = 66 ∨ L = 72 ∨ L = 76 ∨ L = 79 := by
    rcases op_c ho with ⟨h, _⟩ | ⟨h, _⟩ | ⟨h, _⟩ | ⟨h, _⟩ <;> omega
  intro k
  induction k with
  | zero =>
    intro told p σe σb σd N _ h
    omega
  | succ k ih =>
    intro told p σe σb σd N hlen _ hE hc hk hp hn hN hn1
    obtain ⟨M, rfl⟩ : ∃ m, N = m + 1 := ⟨N - 1, by omega⟩
    have e : gX5_firstFault_24 FU σt (M + 1) (nI p) σe σb σd = gbX5_firstFault_24 FU σt (gX5_firstFault_24 FU σt M) (nI p) σe σb σd := rfl
    have ei : itp len tx (vfL L) (okL d L) (k + 1) (.inr (told, p)) = itp len tx (vfL L) (okL d L) k (stp len tx (vfL L) (okL d L) (.inr (told, p))) := rfl
    rw [e, ei]
    unfold gbX5_firstFault_24
    rw [hs]
    by_cases c : len ≤ p
    · rw [if_pos (nI_le c (by omega)), stp_e c, itp_l]
      refine ⟨_, rfl, fun f e => ?_, fun _ e => by cases e⟩
      have e : (Sum.inl p : Sum Nat DD) = .inl f := e
      cases e
      refine ⟨hp, Or.inr ⟨rfl, by omega, hE.1, ?_⟩⟩
      show ¬ σe.1 3 = 0
      rw [hE.2.1]
      rcases hL with rfl | rfl | rfl | rfl <;> decide
    · obtain ⟨hc1, hc2⟩ := hb p (by omega)
      rw [if_neg (nI_ge (by omega) (by omega)), if_neg (nI_in (show p < 92 by omega) (by omega)), nI_clamp (by omega), hc2]
      have hno : (vfL L told.length (tx p) = none ∨ ∃ v, vfL L told.length (tx p) = some v ∧ okL d L told v = false) → ∃ z, ((fX5_accepts FU σe σb σd (nI (tx p))).bind fun r11 => if r11.1 = 0 then some ((49 : Nat), nI p, r11.2.1, r11.2.2.1, r11.2.2.2) else gX5_firstFault_24 FU σt M (nI p + 1) r11.2.1 r11.2.2.1 r11.2.2.2) = some z ∧ clR len (cnt len tx n d L (itp len tx (vfL L) (okL d L) k (stp len tx (vfL L) (okL d L) (.inr (told, p))))) z := fun h => by
        rw [acP_n hv hc ho hE (by omega) hk hc1 h, bd_some, if0, stp_n h, itp_l]
        exact ⟨_, rfl, clR_49 hp⟩
      cases hvf : vfL L told.length (tx p) with
      | none => exact hno (Or.inl hvf)
      | some v =>
        cases hok : okL d L told v with
        | false => exact hno (Or.inr ⟨v, hvf, hok⟩)
        | true =>
          obtain ⟨σe', σb', σd', g1, g2, g3⟩ := acP_y hv hc ho hE (by omega) hk hc1 hvf hok
          rw [g1, bd_some, if1, nI_1, stp_y (by omega) hvf hok]
          by_cases hf : told.length + 1 = kL L
          · have k0 : k = 0 := by omega
            subst k0
            obtain ⟨a1, a2, a3, a4⟩ := g2 hf
            exact IH _ _ _ _ _ _ (vD_add hv ho (by rw [List.length_append]; exact hf) (sn_ok hk hok)) a4 a1 a2 a3 (by omega) (by omega) (by omega)
          · obtain ⟨a1, a2⟩ := g3 hf
            exact ih _ _ _ _ _ _ (by rw [List.length_append]; show told.length + 1 + k = _; omega) (by omega) a1 a2 (sn_ok hk hok) (by omega) (by omega) (by omega) (by omega)
theorem clt_loop {len : Nat} {tx : Nat → Nat} {σt : ST} (hT : TC len tx σt) : ∀ (n : Nat) (d : DD) (p : Nat) (σe σb σd : ST) (N : Nat), vD d → RC d σb σd → σe.1 4 = 1 → σe.1 3 = 0 → σe.1 2 = 0 → p ≤ len → len - p < n → len - p < N → ∃ z, gX5_firstFault_24 FU σt N (nI p) σe σb σd = some z ∧ clR len (rst len tx n d p) z := by
  obtain ⟨h92, hs, hb⟩ := id hT
  intro n
  induction n with
  | zero =>
    intro d p σe σb σd N _ _ _ _ _ _ h
    omega
  | succ n ih =>
    intro d p σe σb σd N hv hc h4 h3 h2 hp hn hN
    obtain ⟨M, rfl⟩ : ∃ m, N = m + 1 := ⟨N - 1, by omega⟩
    have e : gX5_firstFault_24 FU σt (M + 1) (nI p) σe σb σd = gbX5_firstFault_24 FU σt (gX5_firstFault_24 FU σt M) (nI p) σe σb σd := rfl
    rw [e]
    unfold gbX5_firstFault_24
    rw [hs]
    by_cases c : len ≤ p
    · rw [if_pos (nI_le c (by omega)), rst_e c]
      refine ⟨_, rfl, fun f e => (by cases e), fun d' e => ?_⟩
      cases e
      exact ⟨rfl, h4, h3, hc⟩
    · obtain ⟨hc1, hc2⟩ := hb p (by omega)
      rw [if_neg (nI_ge (by omega) (by omega)), if_neg (nI_in (show p < 92 by omega) (by omega)), nI_clamp (by omega), hc2]
      cases ho : opB d (tx p) with
      | false =>
        rw [ac0_n hv hc hc1 h4 h3 ho, bd_some, if0, rst_l c (par_n ho)]
        exact ⟨_, rfl, clR_49 hp⟩
      | true =>
        rw [ac0_y hv hc hc1 h4 h3 ho, bd_some, if1, nI_1, rst_c c ho]
        refine cl_part hT hv ho ih (kL (tx p)) [] (p + 1) _ _ _ M (Nat.zero_add _) ?_ ⟨h4, rfl, h2, fun i v h => by simp at h⟩ hc (fun i v h => by simp at h) (by omega) (by omega) (by omega) (by omega)
        rcases op_c ho with ⟨h, _⟩ | ⟨h, _⟩ | ⟨h, _⟩ | ⟨h, _⟩ <;> rw [h] <;> decide
theorem ffC {len : Nat} {tx : Nat → Nat} {σt : ST} (σe σb σd : ST) (hT : TC len tx σt) : ∃ (r : Int32) (σe' σb' σd' : ST), fX5_firstFault FU σe σb σd σt = some (r, σe', σb', σd') ∧ (∀ f, txtO len tx = .inl f → r = nI f) ∧ ∀ d, txtO len tx = .inr d → r = -9 ∧ RC d σb' σd' := by
  obtain ⟨h92, hs, hb⟩ := id hT
  unfold fX5_firstFault
  rw [show fX2_clear FU σb σd = some (sI σb 3 0, sI (sI (sI σd 3 0) 4 0) 5 0) from rfl, bd_some, nm_go, nm_go, nm_go]
  dsimp only
  have hR : RC d0 (sI σb 3 0) (sI (sI (sI σd 3 0) 4 0) 5 0) := ⟨⟨rfl, fun i q h => by simp [d0] at h⟩, ⟨rfl, fun i q h => by simp [d0] at h⟩, ⟨rfl, fun i q h => by simp [d0] at h⟩, rfl, fun y m _ h => by simp [d0] at h⟩
  obtain ⟨M, hM⟩ : ∃ m, FU = m + 1 := ⟨99999, rfl⟩
  have e : gX5_firstFault_24 FU σt FU 0 (sI (sI (sI σe 2 0) 3 0) 4 0) (sI σb 3 0) (sI (sI (sI σd 3 0) 4 0) 5 0) = gbX5_firstFault_24 FU σt (gX5_firstFault_24 FU σt M) 0 (sI (sI (sI σe 2 0) 3 0) 4 0) (sI σb 3 0) (sI (sI (sI σd 3 0) 4 0) 5 0) := by
    conv => lhs; arg 3; rw [hM]
    rfl
  rw [e]
  unfold gbX5_firstFault_24 txtO
  rw [hs]
  by_cases hl : len = 0
  · rw [if_pos hl, hl, if_pos (show nI 0 ≤ 0 by decide), bd_some]
    dsimp only
    rw [if_neg (by decide), if_pos (show (sI (sI (sI σe 2 0) 3 0) 4 0).1 4 = 0 from rfl)]
    refine ⟨_, _, _, _, rfl, fun f e => ?_, fun _ e => by cases e⟩
    cases e
    rfl
  · obtain ⟨hc1, hc2⟩ := hb 0 (by omega)
    have hc2 : (σt.2.1 0 (0 : Int32).toNatClampNeg) &&& 255 = nI (tx 0) := hc2
    rw [if_neg hl, if_neg (show ¬ nI len ≤ 0 from nI_ge (a := 0) (by omega) (by omega)), if_neg (by decide), hc2]
    by_cases h71 : tx 0 = 71
    · have ha : fX5_accepts FU (sI (sI (sI σe 2 0) 3 0) 4 0) (sI σb 3 0) (sI (sI (sI σd 3 0) 4 0) 5 0) (nI 71) = some (1, sI (sI (sI (sI σe 2 0) 3 0) 4 0) 4 1, sI σb 3 0, sI (sI (sI σd 3 0) 4 0) 5 0) := by
        unfold fX5_accepts
        rw [if_pos (show (sI (sI (sI σe 2 0) 3 0) 4 0).1 4 = 0 from rfl), if_pos (show nI 71 = 71 from rfl), nm_go, show (sI (sI (sI (sI σe 2 0) 3 0) 4 0) 4 1).1 4 = 1 from rfl, if_neg (by decide)]
      rw [h71, if_pos rfl, ha, bd_some, if1]
      have hM2 : M = 99999 := by
        have : (99999 : Nat) + 1 = M + 1 := hM
        omega
      obtain ⟨z, g1, g2⟩ := clt_loop hT 93 d0 1 (sI (sI (sI (sI σe 2 0) 3 0) 4 0) 4 1) (sI σb 3 0) (sI (sI (sI σd 3 0) 4 0) 5 0) M vD_0 hR rfl rfl rfl (by omega) (by omega) (by omega)
      rw [show (0 : Int32) + 1 = nI 1 from rfl, g1, bd_some]
      cases hr : rst len tx 93 d0 1 with
      | inl f =>
        obtain ⟨a1, a2⟩ := g2.1 f hr
        rcases a2 with ⟨b1, b2⟩ | ⟨b1, b2, b3, b4⟩
        · rw [if_pos b1, b2]
          refine ⟨_, _, _, _, rfl, fun f e => ?_, fun _ e => by cases e⟩
          cases e
          rfl
        · rw [if_neg (by rw [b1]; decide), if_neg (by rw [b3]; decide), if_neg b4]
          refine ⟨_, _, _, _, rfl, fun f e => ?_, fun _ e => by cases e⟩
          cases e
          rw [b2]
      | inr d =>
        obtain ⟨b1, b2, b3, b4⟩ := g2.2 d hr
        rw [if_neg (by rw [b1]; decide), if_neg (by rw [b2]; decide), if_pos b3]
        refine ⟨_, _, _, _, rfl, fun f e => (by cases e), fun d e => ?_⟩
        cases e
        exact ⟨rfl, b4⟩
    · have n71 : ¬ nI (tx 0) = 71 := fun e => h71 ((nI_eq (b := 71) (by omega) (by omega)).mp e)
      have ha : fX5_accepts FU (sI (sI (sI σe 2 0) 3 0) 4 0) (sI σb 3 0) (sI (sI (sI σd 3 0) 4 0) 5 0) (nI (tx 0)) = some (0, sI (sI (sI (sI σe 2 0) 3 0) 4 0) 4 0, sI σb 3 0, sI (sI (sI σd 3 0) 4 0) 5 0) := by
        unfold fX5_accepts
        rw [if_pos (show (sI (sI (sI σe 2 0) 3 0) 4 0).1 4 = 0 from rfl), if_neg n71, nm_go, show (sI (sI (sI (sI σe 2 0) 3 0) 4 0) 4 0).1 4 = 0 from rfl, if_neg (by decide)]
      rw [if_neg h71, ha, bd_some, if0, bd_some]
      dsimp only
      rw [if_pos rfl]
      refine ⟨_, _, _, _, rfl, fun f e => ?_, fun _ e => by cases e⟩
      cases e
      rfl
/-- a reading changes nothing that is shown -/
theorem inv_k {S S' : SS} (h : Inv S) (h1 : S' 1 = S 1) (h7 : S' 7 = S 7) (h8 : S' 8 = S 8) (h9 : S' 9 = S 9) (h11 : S' 11 = S 11) (h14 : S' 14 = S 14) (h15 : S' 15 = S 15) (h16 : S' 16 = S 16) (h17 : S' 17 = S 17) (h18 : S' 18 = S 18) (h19 : S' 19 = S 19) (hk : rpk (S 20) (S' 20)) : Inv S' := by
  have i (k : Nat) (hk4 : 6 < k) (h17 : k ≠ 17) (h18 : k ≠ 18) : (S' 20).1 k = (S 20).1 k := hk.1 k (by omega) (by omega) (by omega) h17 h18
  have a (k : Nat) (hk4 : 4 ≤ k) : (S' 20).2.1 k = (S 20).2.1 k := hk.2 k hk4
  unfold Inv PB PG PS PK0 PK1 at h ⊢
  rw [h1, h7, h8, h9, h11, h14, h15, h16, h17, h18, h19, i 16 (by omega) (by omega) (by omega), i 11 (by omega) (by omega) (by omega), i 19 (by omega) (by omega) (by omega), i 20 (by omega) (by omega) (by omega), i 12 (by omega) (by omega) (by omega), i 13 (by omega) (by omega) (by omega), i 14 (by omega) (by omega) (by omega), i 23 (by omega) (by omega) (by omega), a 15 (by omega), a 7 (by omega), a 21 (by omega), a 8 (by omega), a 9 (by omega), a 10 (by omega), a 24 (by omega), a 25 (by omega), a 32 (by omega), a 33 (by omega), a 34 (by omega), a 35 (by omega), a 36 (by omega)]
  exact h
theorem st_fault : St_fault Inv := by
  intro S hI
  obtain ⟨⟨len, tx, t1, t2, t3, t4⟩, _⟩ := id hI
  obtain ⟨r, σe, σb, σd, g1, g2, g3⟩ := ffC (S 2) (S 4) (S 5) (σt := S 1) (len := len) (tx := tx) ⟨t1, t2, fun i hi => ⟨(t4 i hi).1, (t4 i hi).2.1⟩⟩
  obtain ⟨r', σ', k1, k2, k3⟩ := rtM (σ := S 20) (len := len) (tx := tx) ⟨t1, t3, fun i hi => ⟨(t4 i hi).1, (t4 i hi).2.2⟩⟩
  refine ⟨(r, σe, σb, σd), (r', σ'), ?_, ?_, ?_, ?_⟩
  · unfold fX10_fault
    rw [g1, bd_some]
  · unfold fX11_fault
    rw [k1, bd_some]
  · show r = r'
    cases ht : txtO len tx with
    | inl f => exact (g2 f ht).trans (k3.1 f ht).2.symm
    | inr d => exact (g3 d ht).1.trans (k3.2 d ht).1.symm
  · exact inv_k hI rfl rfl rfl rfl rfl rfl rfl rfl rfl rfl rfl k2
