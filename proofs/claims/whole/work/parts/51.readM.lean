/-! the reference reads a part -/
def sunI (o : Option Nat) : Int32 := match o with
  | none => -9
  | some m => nI m
def RD (d : DD) (σ : ST) : Prop := RB3 d.1 (σ.1 4) (σ.2.1 0) ∧ (σ.1 5 = nI d.2.1.length ∧ ∀ (i : Nat) (q : H4), d.2.1[i]? = some q → at4 q (σ.2.1 1) (4 * i)) ∧ (σ.1 6 = nI d.2.2.1.length ∧ ∀ (i : Nat) (q : H4), d.2.2.1[i]? = some q → at4 q (σ.2.1 2) (4 * i)) ∧ ∀ y, y < 6 → σ.2.1 3 y = sunI (d.2.2.2 y)
def vD (d : DD) : Prop := vB d.1 ∧ vG d.2.1 d.2.2.1 d.2.2.2 ∧ (d.1.map (fun q => (q.2.1, q.2.2))).Nodup
theorem bit_63 : ∀ b : Fin 32, (63 : Int32).toBitVec.getLsbD b.1 = decide (b.1 < 6) := by decide +kernel
theorem bit_64k : ∀ b : Fin 16, (65535 : Int32).toBitVec.getLsbD b.1 = true := by decide +kernel
theorem bit_nt (x : Int32) {b : Nat} (hb : b < 32) : (x ^^^ (-1)).toBitVec.getLsbD b = !x.toBitVec.getLsbD b := by
  show (x.toBitVec ^^^ BitVec.allOnes 32).getLsbD b = _
  rw [BitVec.getLsbD_xor, BitVec.getLsbD_allOnes, decide_eq_true hb, Bool.xor_true]
theorem bit1 {y i : Nat} (hy : y < 10) (hi : i < 32) : ((1 : Int32) <<< (nI y &&& 31)).toBitVec.getLsbD i = decide (i = y) := bit_1 ⟨y, hy⟩ ⟨i, hi⟩
theorem izero (m : Int32) : m = 0 ↔ ∀ b, b < 32 → m.toBitVec.getLsbD b = false := by
  constructor
  · rintro rfl b _
    exact bit_0 b
  · intro h
    apply Int32.toBitVec_inj.1
    apply BitVec.eq_of_getLsbD_eq
    intro i hi
    rw [h i hi]
    exact (bit_0 i).symm
theorem fr_loop {F x : Nat} {bl : List B3} {σ : ST} (hv : vB bl) (hb : RB3 bl (σ.1 4) (σ.2.1 0)) (hx : x < 10) : ∀ (r n i : Nat) (v : Int32), i + r = bl.length → r < n → ∃ z : Int32 × Int32, gX11_freeRows_5 F σ (nI x) n v (nI i) = some z ∧ ∀ b, b < 32 → z.1.toBitVec.getLsbD b = (v.toBitVec.getLsbD b && !(bl.drop i).any (fun q => decide (q.2.1 = x) && decide (q.2.2 = b))) := by
  have h8 := hv.1
  intro r
  induction r with
  | zero =>
    intro n i v hi hn
    obtain ⟨m, rfl⟩ : ∃ m, n = m + 1 := ⟨n - 1, by omega⟩
    refine ⟨(v, nI i), ?_, fun b _ => ?_⟩
    · show gbX11_freeRows_5 F σ (nI x) _ v (nI i) = _
      unfold gbX11_freeRows_5
      rw [hb.1, if_pos (nI_le (by omega) (by omega))]
    · rw [List.drop_eq_nil_of_le (by omega)]
      simp
  | succ r ih =>
    intro n i v hi hn
    obtain ⟨m, rfl⟩ : ∃ m, n = m + 1 := ⟨n - 1, by omega⟩
    obtain ⟨q, hq, hqm⟩ := at_get (show i < bl.length by omega)
    obtain ⟨b0, b1, b2⟩ := hb.2 i q hq
    obtain ⟨o0, o1, o2⟩ := hv.2 q hqm
    have e : gX11_freeRows_5 F σ (nI x) (m + 1) v (nI i) = gbX11_freeRows_5 F σ (nI x) (gX11_freeRows_5 F σ (nI x) m) v (nI i) := rfl
    rw [e]
    unfold gbX11_freeRows_5
    rw [hb.1, if_neg (nI_ge (by omega) (by omega)), m31, m32, if_neg (nI_in (show 3 * i + 1 < 24 by omega) (by omega)), if_neg (nI_in (show 3 * i + 2 < 24 by omega) (by omega)), nI_clamp (show 3 * i + 1 < 2 ^ 31 by omega), nI_clamp (show 3 * i + 2 < 2 ^ 31 by omega), b1, b2, nI_1, iandm]
    by_cases c : q.2.1 = x
    · obtain ⟨z, g1, g2⟩ := ih m (i + 1) (v &&& ((1 <<< (nI q.2.2 &&& 31)) ^^^ (-1))) (by omega) (by omega)
      rw [if_pos (by rw [c]), nm_go]
      refine ⟨z, g1, fun b hb => ?_⟩
      rw [g2 b hb, bit_and, bit_nt _ hb, bit1 (show q.2.2 < 10 by omega) hb, any_drop hq, decide_eq_true c, Bool.true_and, Bool.and_assoc, Bool.not_or]
      congr 2
      by_cases e : b = q.2.2
      · rw [decide_eq_true e, decide_eq_true e.symm]
      · rw [decide_eq_false e, decide_eq_false (fun h => e h.symm)]
    · obtain ⟨z, g1, g2⟩ := ih m (i + 1) v (by omega) (by omega)
      rw [if_neg (fun e => c ((nI_eq (by omega) (by omega)).mp e))]
      refine ⟨z, g1, fun b hb => ?_⟩
      rw [g2 b hb, any_drop hq, decide_eq_false c, Bool.false_and, Bool.false_or]
theorem frM {x : Nat} {bl : List B3} {σ : ST} (hv : vB bl) (hb : RB3 bl (σ.1 4) (σ.2.1 0)) (hx : x < 10) : ∃ m, fX11_freeRows FU σ (nI x) = some m ∧ ∀ b, b < 32 → m.toBitVec.getLsbD b = (decide (b < 6) && !tkB bl x b) := by
  obtain ⟨z, g1, g2⟩ := fr_loop (F := FU) hv hb hx bl.length FU 0 63 (by omega) (by have := hv.1; unfold FU; omega)
  rw [show nI 0 = (0 : Int32) from rfl] at g1
  unfold fX11_freeRows
  rw [g1]
  refine ⟨_, rfl, fun b hb => ?_⟩
  rw [g2 b hb, bit_63 ⟨b, hb⟩, List.drop_zero]
  rfl
theorem col_ct {x : Nat} : ∀ (bl : List B3), (∀ q ∈ bl, okB q) → (bl.map (fun q => (q.2.1, q.2.2))).Nodup → colN x bl = fb_ct (fun y => tkB bl x y) 6
  | [], _, _ => (fb_ct_zero.mpr (fun _ _ => rfl)).symm
  | q :: l, hv, hn => by
    rw [List.map_cons, List.nodup_cons] at hn
    have ih := col_ct (x := x) l (fun p hp => hv p (List.mem_cons_of_mem _ hp)) hn.2
    have hq := (hv q List.mem_cons_self).2.2
    have e : ∀ y, tkB (q :: l) x y = ((decide (q.2.1 = x) && decide (q.2.2 = y)) || tkB l x y) := fun y => List.any_cons
    rw [colN, ih]
    by_cases c : q.2.1 = x
    · rw [if_pos c]
      have h0 : tkB l x q.2.2 = false := by
        cases ht : tkB l x q.2.2 with
        | false => rfl
        | true =>
          obtain ⟨p, hp, hp2⟩ := List.any_eq_true.mp ht
          rw [Bool.and_eq_true, decide_eq_true_iff, decide_eq_true_iff] at hp2
          refine absurd (List.mem_map.mpr ⟨p, hp, ?_⟩) hn.1
          show (p.2.1, p.2.2) = (q.2.1, q.2.2)
          rw [hp2.1, hp2.2, c]
      have hu := fb_ct_upd (fun y => tkB l x y) true (i := q.2.2) (n := 6) hq
      rw [h0] at hu
      have hc : fb_ct (fun y => tkB (q :: l) x y) 6 = fb_ct (fun k => if k = q.2.2 then true else tkB l x k) 6 := fb_ct_cong (fun k _ => by
        rw [e, decide_eq_true c, Bool.true_and]
        by_cases ek : k = q.2.2
        · rw [if_pos ek, decide_eq_true ek.symm, Bool.true_or]
        · rw [if_neg ek, decide_eq_false (fun h => ek h.symm), Bool.false_or])
      rw [hc]
      simp only [Bool.false_eq_true, if_false, if_true] at hu
      omega
    · rw [if_neg c, Nat.zero_add]
      exact fb_ct_cong (fun k _ => by rw [e, decide_eq_false c, Bool.false_and, Bool.false_or])
theorem col_free {x : Nat} {bl : List B3} {m : Int32} (hv : vB bl) (hn : (bl.map (fun q => (q.2.1, q.2.2))).Nodup) (hm : ∀ b, b < 32 → m.toBitVec.getLsbD b = (decide (b < 6) && !tkB bl x b)) : m = 0 ↔ ¬ colN x bl < 6 := by
  rw [izero, col_ct bl hv.2 hn]
  have hle := fb_ct_le (fun y => tkB bl x y) 6
  have h1 : (∀ b, b < 32 → m.toBitVec.getLsbD b = false) ↔ fb_ct (fun y => tkB bl x y) 6 = 6 := by
    rw [fb_ct_all]
    constructor
    · intro h b hb
      have := h b (by omega)
      rw [hm b (by omega), decide_eq_true hb, Bool.true_and] at this
      simpa using this
    · intro h b hb
      rw [hm b hb]
      by_cases h6 : b < 6
      · rw [h b h6]
        simp
      · rw [decide_eq_false h6]
        rfl
  rw [h1]
  omega
theorem cl73_loop {bl : List B3} {σ : ST} {v1 : Int32} (hv : vB bl) (hn : (bl.map (fun q => (q.2.1, q.2.2))).Nodup) (hb : RB3 bl (σ.1 4) (σ.2.1 0)) : ∀ (r n x : Nat) (v : Int32), x + r = 10 → r < n → ∃ z : Int32 × Int32, gX11_readBodyPart_73 FU σ v1 n v (nI x) = some z ∧ ∀ b, b < 32 → z.1.toBitVec.getLsbD b = (v.toBitVec.getLsbD b || (decide (x ≤ b ∧ b < 10) && decide (colN b bl < 6))) := by
  intro r
  induction r with
  | zero =>
    intro n x v hx hn
    obtain ⟨m, rfl⟩ : ∃ m, n = m + 1 := ⟨n - 1, by omega⟩
    refine ⟨(v, nI x), ?_, fun b _ => ?_⟩
    · show gbX11_readBodyPart_73 FU σ v1 _ v (nI x) = _
      unfold gbX11_readBodyPart_73
      rw [show x = 10 by omega, if_pos (by decide)]
    · rw [decide_eq_false (show ¬ (x ≤ b ∧ b < 10) by omega), Bool.false_and, Bool.or_false]
  | succ r ih =>
    intro n x v hx hnn
    obtain ⟨m, rfl⟩ : ∃ m, n = m + 1 := ⟨n - 1, by omega⟩
    obtain ⟨fr, f1, f2⟩ := frM hv hb (show x < 10 by omega)
    have hc := col_free hv hn f2
    have e : gX11_readBodyPart_73 FU σ v1 (m + 1) v (nI x) = gbX11_readBodyPart_73 FU σ v1 (gX11_readBodyPart_73 FU σ v1 m) v (nI x) := rfl
    rw [e]
    unfold gbX11_readBodyPart_73
    rw [if_neg (show ¬ (10 : Int32) ≤ nI x from nI_ge (a := x) (b := 10) (by omega) (by omega)), f1, bd_some, nI_1, ior0]
    by_cases c : fr = 0
    · obtain ⟨z, g1, g2⟩ := ih m (x + 1) v (by omega) (by omega)
      rw [if_pos c]
      refine ⟨z, g1, fun b hb => ?_⟩
      rw [g2 b hb]
      by_cases eb : b = x
      · rw [eb, decide_eq_false (hc.mp c), Bool.and_false, Bool.and_false]
      · congr 2
        exact decide_eq_decide.mpr (by omega)
    · obtain ⟨z, g1, g2⟩ := ih m (x + 1) (v ||| (1 <<< (nI x &&& 31))) (by omega) (by omega)
      rw [if_neg c]
      refine ⟨z, g1, fun b hb => ?_⟩
      rw [g2 b hb, bit_or, bit1 (show x < 10 by omega) hb]
      by_cases eb : b = x
      · rw [eb, decide_eq_true rfl, decide_eq_false (show ¬ (x + 1 ≤ x ∧ x < 10) by omega), decide_eq_true (show x ≤ x ∧ x < 10 by omega), decide_eq_true (Decidable.of_not_not (fun h => c (hc.mpr h)))]
        simp
      · rw [decide_eq_false (show ¬ b = x from eb), Bool.or_false]
        congr 2
        exact decide_eq_decide.mpr (by omega)
theorem sun9 {su : Nat → Option Nat} {y : Nat} (h : ∀ y m, su y = some m → m < 16) : sunI (su y) = -9 ↔ (su y).isNone = true := by
  cases hs : su y with
  | none => exact ⟨fun _ => rfl, fun _ => rfl⟩
  | some m =>
    have := h y m hs
    exact ⟨fun e => absurd e (n9 (by omega)), fun e => by cases e⟩
theorem ut_loop {F : Nat} {su : Nat → Option Nat} {σ : ST} (hv : ∀ y m, su y = some m → m < 16) (hs : ∀ y, y < 6 → σ.2.1 3 y = sunI (su y)) : ∀ (r n y : Nat) (v : Int32), y + r = 6 → r < n → ∃ z : Int32 × Int32, gX11_untold_4 F σ n v (nI y) = some z ∧ ∀ b, b < 32 → z.1.toBitVec.getLsbD b = (v.toBitVec.getLsbD b || (decide (y ≤ b ∧ b < 6) && (su b).isNone)) := by
  intro r
  induction r with
  | zero =>
    intro n y v hx hn
    obtain ⟨m, rfl⟩ : ∃ m, n = m + 1 := ⟨n - 1, by omega⟩
    refine ⟨(v, nI y), ?_, fun b _ => ?_⟩
    · show gbX11_untold_4 F σ _ v (nI y) = _
      unfold gbX11_untold_4
      rw [show y = 6 by omega, if_pos (by decide)]
    · rw [decide_eq_false (show ¬ (y ≤ b ∧ b < 6) by omega), Bool.false_and, Bool.or_false]
  | succ r ih =>
    intro n y v hx hnn
    obtain ⟨m, rfl⟩ : ∃ m, n = m + 1 := ⟨n - 1, by omega⟩
    have e : gX11_untold_4 F σ (m + 1) v (nI y) = gbX11_untold_4 F σ (gX11_untold_4 F σ m) v (nI y) := rfl
    have h9 := sun9 (y := y) hv
    rw [e]
    unfold gbX11_untold_4
    rw [if_neg (show ¬ (6 : Int32) ≤ nI y from nI_ge (a := y) (b := 6) (by omega) (by omega)), if_neg (nI_in (show y < 6 by omega) (by omega)), nI_clamp (by omega), hs y (by omega), nI_1, ior0]
    cases hi : (su y).isNone with
    | false =>
      obtain ⟨z, g1, g2⟩ := ih m (y + 1) v (by omega) (by omega)
      rw [if_neg (fun e => by rw [h9.mp e] at hi; cases hi)]
      refine ⟨z, g1, fun b hb => ?_⟩
      rw [g2 b hb]
      by_cases eb : b = y
      · rw [eb, hi, Bool.and_false, Bool.and_false]
      · congr 2
        exact decide_eq_decide.mpr (by omega)
    | true =>
      obtain ⟨z, g1, g2⟩ := ih m (y + 1) (v ||| (1 <<< (nI y &&& 31))) (by omega) (by omega)
      rw [if_pos (h9.mpr hi)]
      refine ⟨z, g1, fun b hb => ?_⟩
      rw [g2 b hb, bit_or, bit1 (show y < 10 by omega) hb]
      by_cases eb : b = y
      · rw [eb, decide_eq_true rfl, hi, decide_eq_true (show y ≤ y ∧ y < 6 by omega)]
        simp
      · rw [decide_eq_false (show ¬ b = y from eb), Bool.or_false]
        congr 2
        exact decide_eq_decide.mpr (by omega)
theorem utM {su : Nat → Option Nat} {σ : ST} (hv : ∀ y m, su y = some m → m < 16) (hs : ∀ y, y < 6 → σ.2.1 3 y = sunI (su y)) : ∃ m, fX11_untold FU σ = some m ∧ (∀ b, b < 32 → m.toBitVec.getLsbD b = (decide (b < 6) && (su b).isNone)) ∧ (m = 0 ↔ mskN su 6 = 63) := by
  obtain ⟨z, g1, g2⟩ := ut_loop (F := FU) hv hs 6 FU 0 0 (by omega) (by unfold FU; omega)
  rw [show nI 0 = (0 : Int32) from rfl] at g1
  have hb : ∀ b, b < 32 → z.1.toBitVec.getLsbD b = (decide (b < 6) && (su b).isNone) := fun b hb => by
    rw [g2 b hb, bit_0, Bool.false_or]
    congr 1
    exact decide_eq_decide.mpr (by omega)
  unfold fX11_untold
  rw [g1]
  refine ⟨_, rfl, hb, ?_⟩
  rw [izero]
  have hall : (∀ y, y < 6 → (su y).isSome = true) ↔ mskN su 6 = 63 := by
    have hm : ∀ {y : Nat}, y < 6 → mskN su 6 / 2 ^ y % 2 = if (su y).isSome then 1 else 0 := fun h => msk_bit su h
    have hl := msk_lt su
    constructor
    · intro h
      have h0 := hm (y := 0) (by omega)
      have h1 := hm (y := 1) (by omega)
      have h2 := hm (y := 2) (by omega)
      have h3 := hm (y := 3) (by omega)
      have h4 := hm (y := 4) (by omega)
      have h5 := hm (y := 5) (by omega)
      rw [if_pos (h _ (by omega))] at h0 h1 h2 h3 h4 h5
      omega
    · intro h y hy
      have h0 := hm hy
      rw [h] at h0
      by_cases c : (su y).isSome = true
      · exact c
      · rw [if_neg c] at h0
        rcases (show y = 0 ∨ y = 1 ∨ y = 2 ∨ y = 3 ∨ y = 4 ∨ y = 5 by omega) with rfl | rfl | rfl | rfl | rfl | rfl <;> simp at h0
  rw [← hall]
  constructor
  · intro h y hy
    have := h y (by omega)
    have := (hb y (by omega)).symm.trans this
    rw [decide_eq_true hy, Bool.true_and] at this
    cases hs : su y with
    | none =>
      rw [hs] at this
      cases this
    | some m => rfl
  · intro h b hb2
    show z.1.toBitVec.getLsbD b = false
    rw [hb b hb2]
    by_cases h6 : b < 6
    · have := h b h6
      cases hs : su b with
      | none =>
        rw [hs] at this
        cases this
      | some m =>
        rw [Bool.and_comm]
        rfl
    · rw [decide_eq_false h6]
      rfl
/-- four signs, each written where it belongs -/
def bI (x y : Int32) : Int32 := (1 <<< ((y + 1) &&& 31)) - (1 <<< (x &&& 31))
theorem bitsG (F : Nat) (x y : Int32) : fX11_bits F x y = some (bI x y) := rfl
theorem bI_bit : ∀ a : Fin 16, ∀ b : Fin 16, ∀ v : Fin 16, a.1 ≤ b.1 → (bI (nI a.1) (nI b.1)).toBitVec.getLsbD v.1 = (decide (a.1 ≤ v.1) && decide (v.1 < b.1 + 1)) := by decide +kernel
def WQ (len : Nat) (ok : List Nat → Nat → Bool) (sl base : Nat) (σ : ST) (s : SP) (i : Nat) (σ1 : ST) : Prop := MR len s σ1 ∧ (∀ k, k ≠ 17 → k ≠ 18 → σ1.1 k = σ.1 k) ∧ (∀ k, k ≠ sl → σ1.2.1 k = σ.2.1 k) ∧ (∀ j, j < base → σ1.2.1 sl j = σ.2.1 sl j) ∧ ∀ told p, s = .inr (told, p) → told.length = i ∧ (∀ k v, told[k]? = some v → σ1.2.1 sl (base + k) = nI v) ∧ ∀ k v, told[k]? = some v → ok (told.take k) v = true
theorem wqS {len : Nat} {tx : Nat → Nat} {vf : Nat → Nat → Option Nat} {ok : List Nat → Nat → Bool} {sl base i : Nat} {σ σ1 : ST} {s : SP} {m : Int32} (hX : TX len tx σ) (hW : WQ len ok sl base σ s i σ1) (hsl : sl ≠ 15) (hf : ∀ told p, s = .inr (told, p) → ∀ c, vf told.length c = vlu c) (hm : ∀ told p, s = .inr (told, p) → ∀ v, v < 16 → m.toBitVec.getLsbD v = ok told v) : ∃ (v : Int32) (σ2 : ST), fX11_sign FU σ1 m = some (v, σ2) ∧ (∀ k, k ≠ 17 → k ≠ 18 → σ2.1 k = σ1.1 k) ∧ WQ len ok sl base σ (stp len tx vf ok s) (i + 1) (sA σ2 sl (base + i) v) := by
  obtain ⟨w1, w2, w3, w4, w5⟩ := hW
  have hX1 : TX len tx σ1 := ⟨hX.1, by rw [w2 16 (by omega) (by omega)]; exact hX.2.1, fun j hj => by rw [w3 15 (fun e => hsl e.symm)]; exact hX.2.2 j hj⟩
  obtain ⟨v, σ2, g1, g2, g3, g4, g5⟩ := sgM hX1 w1 hf hm
  refine ⟨v, σ2, g1, g3.1, ⟨g2.1, g2.2⟩, fun k a b => (g3.1 k a b).trans (w2 k a b), fun k hk => ?_, fun j hj => ?_, fun told p e => ?_⟩
  · rw [st_A2, if_neg hk, g3.2]
    exact w3 k hk
  · rw [aA_at, if_pos rfl, if_neg (by omega), g3.2]
    exact w4 j hj
  · obtain ⟨t0, w, p0, e1, e2, e3, e4, e5, e6⟩ := stp_r e
    obtain ⟨a1, a2, a3⟩ := w5 t0 p0 e1
    have hv : v = nI w := g4 t0 w p (by rw [e, e6])
    subst e6
    refine ⟨by rw [List.length_append, a1]; rfl, fun k u hk => ?_, fun k u hk => ?_⟩
    · rw [aA_at, if_pos rfl]
      by_cases c : k < t0.length
      · rw [List.getElem?_append_left c] at hk
        rw [if_neg (by omega), g3.2]
        exact a2 k u hk
      · rw [List.getElem?_append_right (by omega)] at hk
        have h0 : k - t0.length < 1 := (List.getElem?_eq_some_iff.mp hk).1
        have ek : k = t0.length := by omega
        subst ek
        rw [Nat.sub_self] at hk
        cases hk
        rw [if_pos (by omega), hv]
    · by_cases c : k < t0.length
      · rw [List.getElem?_append_left c] at hk
        rw [List.take_append_of_le_length (by omega)]
        exact a3 k u hk
      · rw [List.getElem?_append_right (by omega)] at hk
        have h0 : k - t0.length < 1 := (List.getElem?_eq_some_iff.mp hk).1
        have ek : k = t0.length := by omega
        subst ek
        rw [Nat.sub_self] at hk
        cases hk
        rw [List.take_left]
        exact e5
