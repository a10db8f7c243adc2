/-! the reference reads a part: all letters -/
theorem sn_ok {ok : List Nat → Nat → Bool} {t0 : List Nat} {v : Nat} (h0 : ∀ i u, t0[i]? = some u → ok (t0.take i) u = true) (h : ok t0 v = true) : ∀ i u, (t0 ++ [v])[i]? = some u → ok ((t0 ++ [v]).take i) u = true := by
  intro k u hk
  by_cases c : k < t0.length
  · rw [List.getElem?_append_left c] at hk
    rw [List.take_append_of_le_length (by omega)]
    exact h0 k u hk
  · rw [List.getElem?_append_right (by omega)] at hk
    have hl : k - t0.length < 1 := (List.getElem?_eq_some_iff.mp hk).1
    have ek : k = t0.length := by omega
    subst ek
    rw [Nat.sub_self] at hk
    cases hk
    rw [List.take_left]
    exact h
theorem itp_ok {len : Nat} {tx : Nat → Nat} {vf : Nat → Nat → Option Nat} {ok : List Nat → Nat → Bool} : ∀ (k : Nat) (t0 told : List Nat) (p p' : Nat), itp len tx vf ok k (.inr (t0, p)) = .inr (told, p') → p ≤ len → (∀ i v, t0[i]? = some v → ok (t0.take i) v = true) → told.length = t0.length + k ∧ p' = p + k ∧ p' ≤ len ∧ ∀ i v, told[i]? = some v → ok (told.take i) v = true
  | 0, t0, told, p, p', h, hp, h0 => by
    have h : (Sum.inr (t0, p) : SP) = .inr (told, p') := h
    cases h
    exact ⟨rfl, rfl, hp, h0⟩
  | k + 1, t0, told, p, p', h, hp, h0 => by
    have h : itp len tx vf ok k (stp len tx vf ok (.inr (t0, p))) = .inr (told, p') := h
    cases hs : stp len tx vf ok (.inr (t0, p)) with
    | inl f =>
      rw [hs, itp_l] at h
      cases h
    | inr q =>
      obtain ⟨t1, p1⟩ := q
      rw [hs] at h
      obtain ⟨t, v, p0, e1, e2, e3, e4, e5, e6⟩ := stp_r hs
      cases e1
      subst e6
      obtain ⟨a1, a2, a3, a4⟩ := itp_ok k (t0 ++ [v]) told p1 p' h (by omega) (sn_ok h0 e5)
      refine ⟨?_, by omega, a3, a4⟩
      rw [a1, List.length_append]
      show t0.length + 1 + k = _
      omega
theorem len2 {l : List Nat} (h : l.length = 2) : ∃ a b, l = [a, b] := by
  match l, h with
  | [a, b], _ => exact ⟨a, b, rfl⟩
theorem len3 {l : List Nat} (h : l.length = 3) : ∃ a b c, l = [a, b, c] := by
  match l, h with
  | [a, b, c], _ => exact ⟨a, b, c, rfl⟩
theorem len4 {l : List Nat} (h : l.length = 4) : ∃ a b c e, l = [a, b, c, e] := by
  match l, h with
  | [a, b, c, e], _ => exact ⟨a, b, c, e, rfl⟩
theorem op_c {d : DD} {c : Nat} (h : opB d c = true) : (c = 66 ∧ d.1.length < 8) ∨ (c = 72 ∧ d.2.1.length < 3) ∨ (c = 76 ∧ ¬ mskN d.2.2.2 6 = 63) ∨ (c = 79 ∧ d.2.2.1.length < 4) := by
  unfold opB at h
  by_cases h1 : c = 66
  · rw [if_pos h1] at h
    exact Or.inl ⟨h1, of_decide_eq_true h⟩
  · rw [if_neg h1] at h
    by_cases h2 : c = 72
    · rw [if_pos h2] at h
      exact Or.inr (Or.inl ⟨h2, of_decide_eq_true h⟩)
    · rw [if_neg h2] at h
      by_cases h3 : c = 76
      · rw [if_pos h3] at h
        refine Or.inr (Or.inr (Or.inl ⟨h3, fun e => ?_⟩))
        rw [decide_eq_true e] at h
        cases h
      · rw [if_neg h3] at h
        by_cases h4 : c = 79
        · rw [if_pos h4] at h
          exact Or.inr (Or.inr (Or.inr ⟨h4, of_decide_eq_true h⟩))
        · rw [if_neg h4] at h
          cases h
theorem rng_ok {lim a b c e : Nat} (hk : ∀ i v, [a, b, c, e][i]? = some v → rngB lim ([a, b, c, e].take i) v = true) : a ≤ b ∧ b < 10 ∧ c ≤ e ∧ e < lim := by
  have h1 : (decide (a ≤ b) && decide (b < 10)) = true := hk 1 b rfl
  have h3 : (decide (c ≤ e) && decide (e < lim)) = true := hk 3 e rfl
  rw [Bool.and_eq_true, decide_eq_true_iff, decide_eq_true_iff] at h1 h3
  exact ⟨h1.1, h1.2, h3.1, h3.2⟩
theorem vD_add {d : DD} {L : Nat} {told : List Nat} (hv : vD d) (ho : opB d L = true) (hl : told.length = kL L) (hk : ∀ i v, told[i]? = some v → okL d L (told.take i) v = true) : vD (addL d L told) := by
  obtain ⟨⟨b1, b2⟩, ⟨g1, g2, g3, g4, g5⟩, hn⟩ := hv
  rcases op_c ho with ⟨rfl, hc⟩ | ⟨rfl, hc⟩ | ⟨rfl, hc⟩ | ⟨rfl, hc⟩
  · obtain ⟨k, x, y, rfl⟩ := len3 hl
    have h0 : decide (k < 6) = true := hk 0 k rfl
    have h1 : (decide (x < 10) && decide (colN x d.1 < 6)) = true := hk 1 x rfl
    have h2 : (decide (y < 6) && !tkB d.1 x y) = true := hk 2 y rfl
    rw [Bool.and_eq_true, decide_eq_true_iff] at h1 h2
    rw [decide_eq_true_iff] at h0
    refine ⟨⟨?_, fun q hq => ?_⟩, ⟨g1, g2, g3, g4, g5⟩, ?_⟩
    · show (d.1 ++ [(k, x, y)]).length ≤ 8
      rw [List.length_append]
      show d.1.length + 1 ≤ 8
      omega
    · have hq : q ∈ d.1 ++ [(k, x, y)] := hq
      rcases List.mem_append.mp hq with hq | hq
      · exact b2 q hq
      · rw [List.mem_singleton.mp hq]
        exact ⟨h0, h1.1, h2.1⟩
    · show ((d.1 ++ [(k, x, y)]).map (fun q => (q.2.1, q.2.2))).Nodup
      rw [List.map_append]
      refine List.nodup_append.mpr ⟨hn, by simp, fun u hu w hw e => ?_⟩
      have hw : w ∈ [(x, y)] := hw
      rw [List.mem_singleton] at hw
      obtain ⟨q, hq, hq2⟩ := List.mem_map.mp hu
      have ht : tkB d.1 x y = true := by
        refine List.any_eq_true.mpr ⟨q, hq, ?_⟩
        have e2 : (q.2.1, q.2.2) = (x, y) := hq2.trans (e.trans hw)
        injection e2 with e3 e4
        rw [decide_eq_true e3, decide_eq_true e4]
        rfl
      rw [ht] at h2
      exact absurd h2.2 (by decide)
  · obtain ⟨a, b, c, e, rfl⟩ := len4 hl
    have h := rng_ok (lim := 6) hk
    refine ⟨⟨b1, b2⟩, ⟨?_, fun q hq => ?_, g3, g4, g5⟩, hn⟩
    · show (d.2.1 ++ [(a, b, c, e)]).length ≤ 3
      rw [List.length_append]
      show d.2.1.length + 1 ≤ 3
      omega
    · have hq : q ∈ d.2.1 ++ [(a, b, c, e)] := hq
      rcases List.mem_append.mp hq with hq | hq
      · exact g2 q hq
      · rw [List.mem_singleton.mp hq]
        exact h
  · obtain ⟨y, m, rfl⟩ := len2 hl
    have h1 : decide (m < 16) = true := hk 1 m rfl
    rw [decide_eq_true_iff] at h1
    refine ⟨⟨b1, b2⟩, ⟨g1, g2, g3, g4, fun z n hz => ?_⟩, hn⟩
    have hz : (if z = y then some m else d.2.2.2 z) = some n := hz
    by_cases c : z = y
    · rw [if_pos c] at hz
      cases hz
      exact h1
    · rw [if_neg c] at hz
      exact g5 z n hz
  · obtain ⟨a, b, c, e, rfl⟩ := len4 hl
    have h := rng_ok (lim := 16) hk
    refine ⟨⟨b1, b2⟩, ⟨g1, g2, ?_, fun q hq => ?_, g5⟩, hn⟩
    · show (d.2.2.1 ++ [(a, b, c, e)]).length ≤ 4
      rw [List.length_append]
      show d.2.2.1.length + 1 ≤ 4
      omega
    · have hq : q ∈ d.2.2.1 ++ [(a, b, c, e)] := hq
      rcases List.mem_append.mp hq with hq | hq
      · exact g4 q hq
      · rw [List.mem_singleton.mp hq]
        exact h
def fin (d : DD) (L : Nat) : SP → Sum Nat (DD × Nat)
  | .inl f => .inl f
  | .inr (told, p') => .inr (addL d L told, p')
theorem par_y {len : Nat} {tx : Nat → Nat} {d : DD} {p : Nat} (h : opB d (tx p) = true) : partO len tx d p = fin d (tx p) (itp len tx (vfL (tx p)) (okL d (tx p)) (kL (tx p)) (.inr ([], p + 1))) := by
  unfold partO
  rw [if_pos h]
  cases itp len tx (vfL (tx p)) (okL d (tx p)) (kL (tx p)) (.inr ([], p + 1)) <;> rfl
theorem par_n {len : Nat} {tx : Nat → Nat} {d : DD} {p : Nat} (h : opB d (tx p) = false) : partO len tx d p = .inl p := by
  unfold partO
  rw [h]
  rfl
theorem par_v {len : Nat} {tx : Nat → Nat} {d d' : DD} {p p' : Nat} (hp : p < len) (hv : vD d) (h : partO len tx d p = .inr (d', p')) : vD d' ∧ p < p' ∧ p' ≤ len := by
  cases ho : opB d (tx p) with
  | false =>
    rw [par_n ho] at h
    cases h
  | true =>
    rw [par_y ho] at h
    cases hs : itp len tx (vfL (tx p)) (okL d (tx p)) (kL (tx p)) (.inr ([], p + 1)) with
    | inl f =>
      rw [hs] at h
      cases h
    | inr q =>
      obtain ⟨told, p1⟩ := q
      rw [hs] at h
      have h : (Sum.inr (addL d (tx p) told, p1) : Sum Nat (DD × Nat)) = .inr (d', p') := h
      cases h
      obtain ⟨a1, a2, a3, a4⟩ := itp_ok _ _ _ _ _ hs (by omega) (fun i v hi => by simp at hi)
      refine ⟨vD_add hv ho ?_ a4, by omega, a3⟩
      rw [a1]
      exact Nat.zero_add _
/-- what a part of the reference leaves -/
def rpk (σ σ' : ST) : Prop := (∀ k, k ≠ 4 → k ≠ 5 → k ≠ 6 → k ≠ 17 → k ≠ 18 → σ'.1 k = σ.1 k) ∧ ∀ k, 4 ≤ k → σ'.2.1 k = σ.2.1 k
def rpR (len : Nat) (r : Sum Nat (DD × Nat)) (σ' : ST) : Prop := (∀ f, r = .inl f → f ≤ len ∧ σ'.1 18 = nI f) ∧ ∀ d' p', r = .inr (d', p') → σ'.1 18 = -9 ∧ σ'.1 17 = nI p' ∧ RD d' σ'
def rpC (sl cs N : Nat) (m2 top : Int32) (σ : ST) : Option ST :=
  nm (sI σ 17 ((σ.1 17) + (1 : Int32))) fun (s : ST) =>
  (fX11_sign FU s (bI 0 9)).bind fun q0 =>
  if ((4 : Int32) * (s.1 cs)) < 0 ∨ N ≤ ((4 : Int32) * (s.1 cs)).toNatClampNeg then none else
  nm (sA q0.2 sl ((4 : Int32) * (s.1 cs)).toNatClampNeg q0.1) fun (s1 : ST) =>
  (fX11_sign FU s1 (bI (s1.2.1 sl ((4 : Int32) * (s.1 cs)).toNatClampNeg) 9)).bind fun q1 =>
  if (((4 : Int32) * (s.1 cs)) + (1 : Int32)) < 0 ∨ N ≤ (((4 : Int32) * (s.1 cs)) + (1 : Int32)).toNatClampNeg then none else
  nm (sA q1.2 sl (((4 : Int32) * (s.1 cs)) + (1 : Int32)).toNatClampNeg q1.1) fun (s2 : ST) =>
  (fX11_sign FU s2 m2).bind fun q2 =>
  if (((4 : Int32) * (s.1 cs)) + (2 : Int32)) < 0 ∨ N ≤ (((4 : Int32) * (s.1 cs)) + (2 : Int32)).toNatClampNeg then none else
  nm (sA q2.2 sl (((4 : Int32) * (s.1 cs)) + (2 : Int32)).toNatClampNeg q2.1) fun (s3 : ST) =>
  (fX11_sign FU s3 (bI (s3.2.1 sl (((4 : Int32) * (s.1 cs)) + (2 : Int32)).toNatClampNeg) top)).bind fun q3 =>
  if (((4 : Int32) * (s.1 cs)) + (3 : Int32)) < 0 ∨ N ≤ (((4 : Int32) * (s.1 cs)) + (3 : Int32)).toNatClampNeg then none else
  nm (sA q3.2 sl (((4 : Int32) * (s.1 cs)) + (3 : Int32)).toNatClampNeg q3.1) fun (s4 : ST) =>
  nm (sI s4 cs ((s4.1 cs) + (1 : Int32))) fun (s5 : ST) =>
  some s5
theorem wq0 {len p : Nat} {ok : List Nat → Nat → Bool} {sl base : Nat} {σ : ST} (hp : p < len) (h18 : σ.1 18 = -9) : WQ len ok sl base σ (.inr ([], p + 1)) 0 (sI σ 17 (nI p + 1)) :=
  ⟨MR_r (by omega) h18 (nI_1 p), fun k h _ => by rw [st_I1, if_neg h], fun _ _ => rfl, fun _ _ => rfl, fun told p' e => by
    cases e
    exact ⟨rfl, fun k v h => (by simp at h), fun k v h => (by simp at h)⟩⟩
theorem rp_four {len : Nat} {tx : Nat → Nat} {vf : Nat → Nat → Option Nat} {lim sl cs N n p t : Nat} {m2 : Int32} {σ : ST} (hX : TX len tx σ) (h18 : σ.1 18 = -9) (h17 : σ.1 17 = nI p) (hp : p < len) (hsl : sl ≠ 15) (hf : ∀ i c, vf i c = vlu c) (hc : σ.1 cs = nI n) (hcs : cs ≠ 17 ∧ cs ≠ 18) (hN : 4 * n + 3 < N) (hNN : N < 2 ^ 31) (hm2 : ∀ v, v < 16 → m2.toBitVec.getLsbD v = decide (v < lim)) (ht : t + 1 = lim) (hlim : lim ≤ 16) : ∃ σ4, rpC sl cs N m2 (nI t) σ = some (sI σ4 cs (nI (n + 1))) ∧ WQ len (rngB lim) sl (4 * n) σ (itp len tx vf (rngB lim) 4 (.inr ([], p + 1))) 4 σ4 := by
  have W0 : WQ len (rngB lim) sl (4 * n) σ (.inr ([], p + 1)) 0 (sI σ 17 (nI p + 1)) := wq0 hp h18
  obtain ⟨v0, σ0, g0, k0, W1⟩ := wqS (tx := tx) (vf := vf) (m := bI 0 9) hX W0 hsl (fun told _ _ c => hf _ c) (fun told p' e v hv => by
    cases e
    have h := bI_bit ⟨0, by omega⟩ ⟨9, by omega⟩ ⟨v, hv⟩ (Nat.zero_le 9)
    rw [decide_eq_true (Nat.zero_le v), Bool.true_and] at h
    exact h)
  have W1 : WQ len (rngB lim) sl (4 * n) σ (stp len tx vf (rngB lim) (.inr ([], p + 1))) 1 (sA σ0 sl (4 * n) v0) := W1
  obtain ⟨v1, σ1, g1, k1, W2⟩ := wqS (tx := tx) (vf := vf) (m := bI ((sA σ0 sl (4 * n) v0).2.1 sl (4 * n)) 9) hX W1 hsl (fun told _ _ c => hf _ c) (fun told p' e v hv => by
    obtain ⟨a1, a2, a3⟩ := W1.2.2.2.2 told p' e
    match told, a1 with
    | [a], _ =>
      have q1 := a2 0 a rfl
      have q2 : decide (a < 10) = true := a3 0 a rfl
      rw [decide_eq_true_iff] at q2
      rw [Nat.add_zero] at q1
      rw [q1]
      exact bI_bit ⟨a, by omega⟩ ⟨9, by omega⟩ ⟨v, hv⟩ (show a ≤ 9 by omega))
  have W2 : WQ len (rngB lim) sl (4 * n) σ (stp len tx vf (rngB lim) (stp len tx vf (rngB lim) (.inr ([], p + 1)))) 2 (sA σ1 sl (4 * n + 1) v1) := W2
  obtain ⟨v2, σ2, g2, k2, W3⟩ := wqS (tx := tx) (vf := vf) (m := m2) hX W2 hsl (fun told _ _ c => hf _ c) (fun told p' e v hv => by
    obtain ⟨a1, a2, a3⟩ := W2.2.2.2.2 told p' e
    match told, a1 with
    | [a, b], _ => exact hm2 v hv)
  have W3 : WQ len (rngB lim) sl (4 * n) σ (stp len tx vf (rngB lim) (stp len tx vf (rngB lim) (stp len tx vf (rngB lim) (.inr ([], p + 1))))) 3 (sA σ2 sl (4 * n + 2) v2) := W3
  obtain ⟨v3, σ3, g3, k3, W4⟩ := wqS (tx := tx) (vf := vf) (m := bI ((sA σ2 sl (4 * n + 2) v2).2.1 sl (4 * n + 2)) (nI t)) hX W3 hsl (fun told _ _ c => hf _ c) (fun told p' e v hv => by
    obtain ⟨a1, a2, a3⟩ := W3.2.2.2.2 told p' e
    match told, a1 with
    | [a, b, c], _ =>
      have q1 := a2 2 c rfl
      have q2 : decide (c < lim) = true := a3 2 c rfl
      rw [decide_eq_true_iff] at q2
      rw [q1]
      have h := bI_bit ⟨c, by omega⟩ ⟨t, by omega⟩ ⟨v, hv⟩ (show c ≤ t by omega)
      show _ = (decide (c ≤ v) && decide (v < lim))
      rw [← ht]
      exact h)
  refine ⟨sA σ3 sl (4 * n + 3) v3, ?_, W4⟩
  have hs : (sI σ 17 (nI p + 1)).1 cs = nI n := by rw [st_I1, if_neg hcs.1, hc]
  have he : (sA σ3 sl (4 * n + 3) v3).1 cs = nI n := (W4.2.1 cs hcs.1 hcs.2).trans hc
  unfold rpC
  rw [nm_go, h17, g0, bd_some, hs, m41, m42, m43, m40, if_neg (nI_in (show 4 * n < N by omega) hNN), nI_clamp (show 4 * n < 2 ^ 31 by omega), nI_clamp (show 4 * n + 1 < 2 ^ 31 by omega), nI_clamp (show 4 * n + 2 < 2 ^ 31 by omega), nI_clamp (show 4 * n + 3 < 2 ^ 31 by omega), nm_go]
  dsimp only
  rw [g1, bd_some, if_neg (ckd (show 4 * n + 1 < N by omega) (by omega)), nm_go]
  dsimp only
  rw [g2, bd_some, if_neg (ckd (show 4 * n + 2 < N by omega) (by omega)), nm_go]
  dsimp only
  rw [g3, bd_some, if_neg (ckd (show 4 * n + 3 < N by omega) (by omega)), nm_go]
  dsimp only
  rw [nm_go, he, nI_1]
theorem h4_push {l : List H4} {f g : Nat → Int32} {a b c e : Nat} (h : ∀ (i : Nat) (q : H4), l[i]? = some q → at4 q f (4 * i)) (h1 : ∀ j, j < 4 * l.length → g j = f j) (h2 : ∀ k v, [a, b, c, e][k]? = some v → g (4 * l.length + k) = nI v) : ∀ (i : Nat) (q : H4), (l ++ [(a, b, c, e)])[i]? = some q → at4 q g (4 * i) := by
  intro i q hi
  by_cases hc : i < l.length
  · rw [List.getElem?_append_left hc] at hi
    obtain ⟨q0, q1, q2, q3⟩ := h i q hi
    exact ⟨(h1 _ (by omega)).trans q0, (h1 _ (by omega)).trans q1, (h1 _ (by omega)).trans q2, (h1 _ (by omega)).trans q3⟩
  · rw [List.getElem?_append_right (by omega)] at hi
    have hl : i - l.length < 1 := (List.getElem?_eq_some_iff.mp hi).1
    have ei : i = l.length := by omega
    subst ei
    rw [Nat.sub_self] at hi
    cases hi
    exact ⟨h2 0 a rfl, h2 1 b rfl, h2 2 c rfl, h2 3 e rfl⟩
theorem bI0 {t v : Nat} (ht : t < 16) (hv : v < 16) : (bI 0 (nI t)).toBitVec.getLsbD v = decide (v < t + 1) := by
  have h := bI_bit ⟨0, by omega⟩ ⟨t, ht⟩ ⟨v, hv⟩ (Nat.zero_le t)
  rw [decide_eq_true (Nat.zero_le v), Bool.true_and] at h
  exact h
theorem rp_hill {len : Nat} {tx : Nat → Nat} {d : DD} {p : Nat} {σ : ST} (hX : TX len tx σ) (hd : RD d σ) (h18 : σ.1 18 = -9) (h17 : σ.1 17 = nI p) (hp : p < len) (ho : d.2.1.length < 3) : ∃ σ', fX11_readPart FU σ 72 = some σ' ∧ rpk σ σ' ∧ rpR len (fin d 72 (itp len tx (vfL 72) (okL d 72) (kL 72) (.inr ([], p + 1)))) σ' := by
  obtain ⟨hb, ⟨hn, hh⟩, hcl, hsu⟩ := hd
  obtain ⟨σ4, g, W⟩ := rp_four (lim := 6) (sl := 1) (cs := 5) (N := 12) (n := d.2.1.length) (t := 5) (m2 := bI 0 5) (vf := vfL 72) hX h18 h17 hp (by omega) (fun i c => if_neg (by omega)) hn ⟨by omega, by omega⟩ (by omega) (by omega) (fun v hv => bI0 (t := 5) (by omega) hv) rfl (by omega)
  refine ⟨sI σ4 5 (nI (d.2.1.length + 1)), ?_, ⟨fun k k4 k5 k6 k17 k18 => by rw [st_I1, if_neg k5]; exact W.2.1 k k17 k18, fun k hk => W.2.2.1 k (by omega)⟩, ?_⟩
  · unfold fX11_readPart
    rw [if_neg (by decide), if_pos rfl, if_neg (by rw [hn]; exact nI_ge (a := d.2.1.length) (b := 3) ho (by omega))]
    simp only [bitsG, bd_some]
    exact g
  · show rpR len (fin d 72 (itp len tx (vfL 72) (rngB 6) 4 (.inr ([], p + 1)))) _
    cases hs : itp len tx (vfL 72) (rngB 6) 4 (.inr ([], p + 1)) with
    | inl f =>
      refine ⟨fun f' e => ?_, fun _ _ e => by cases e⟩
      cases e
      exact W.1.1 f hs
    | inr q =>
      obtain ⟨told, p'⟩ := q
      refine ⟨fun f' e => (by cases e), fun d' p1 e => ?_⟩
      cases e
      obtain ⟨a1, a2, a3⟩ := W.2.2.2.2 told p' hs
      obtain ⟨_, c1, c2⟩ := W.1.2 told p' hs
      obtain ⟨a, b, c, e, rfl⟩ := len4 a1
      refine ⟨c1, c2, ?_, ⟨?_, ?_⟩, ?_, ?_⟩
      · show RB3 d.1 (σ4.1 4) (σ4.2.1 0)
        rw [W.2.1 4 (by omega) (by omega), W.2.2.1 0 (by omega)]
        exact hb
      · show nI (d.2.1.length + 1) = nI (d.2.1 ++ [(a, b, c, e)]).length
        rw [List.length_append]
        rfl
      · exact h4_push hh W.2.2.2.1 a2
      · show σ4.1 6 = _ ∧ ∀ (i : Nat) (q : H4), d.2.2.1[i]? = some q → at4 q (σ4.2.1 2) (4 * i)
        rw [W.2.1 6 (by omega) (by omega), W.2.2.1 2 (by omega)]
        exact hcl
      · show ∀ y, y < 6 → σ4.2.1 3 y = sunI (d.2.2.2 y)
        rw [W.2.2.1 3 (by omega)]
        exact hsu
theorem rp_cloud {len : Nat} {tx : Nat → Nat} {d : DD} {p : Nat} {σ : ST} (hX : TX len tx σ) (hd : RD d σ) (h18 : σ.1 18 = -9) (h17 : σ.1 17 = nI p) (hp : p < len) (ho : d.2.2.1.length < 4) : ∃ σ', fX11_readPart FU σ 79 = some σ' ∧ rpk σ σ' ∧ rpR len (fin d 79 (itp len tx (vfL 79) (okL d 79) (kL 79) (.inr ([], p + 1)))) σ' := by
  obtain ⟨hb, hh, ⟨hn, hcl⟩, hsu⟩ := hd
  obtain ⟨σ4, g, W⟩ := rp_four (lim := 16) (sl := 2) (cs := 6) (N := 16) (n := d.2.2.1.length) (t := 15) (m2 := 65535) (vf := vfL 79) hX h18 h17 hp (by omega) (fun i c => if_neg (by omega)) hn ⟨by omega, by omega⟩ (by omega) (by omega) (fun v hv => by rw [decide_eq_true hv]; exact bit_64k ⟨v, hv⟩) rfl (by omega)
  refine ⟨sI σ4 6 (nI (d.2.2.1.length + 1)), ?_, ⟨fun k k4 k5 k6 k17 k18 => by rw [st_I1, if_neg k6]; exact W.2.1 k k17 k18, fun k hk => W.2.2.1 k (by omega)⟩, ?_⟩
  · unfold fX11_readPart
    rw [if_neg (by decide), if_neg (by decide), if_neg (by decide), if_pos rfl, if_neg (by rw [hn]; exact nI_ge (a := d.2.2.1.length) (b := 4) ho (by omega))]
    simp only [bitsG, bd_some]
    exact g
  · show rpR len (fin d 79 (itp len tx (vfL 79) (rngB 16) 4 (.inr ([], p + 1)))) _
    cases hs : itp len tx (vfL 79) (rngB 16) 4 (.inr ([], p + 1)) with
    | inl f =>
      refine ⟨fun f' e => ?_, fun _ _ e => by cases e⟩
      cases e
      exact W.1.1 f hs
    | inr q =>
      obtain ⟨told, p'⟩ := q
      refine ⟨fun f' e => (by cases e), fun d' p1 e => ?_⟩
      cases e
      obtain ⟨a1, a2, a3⟩ := W.2.2.2.2 told p' hs
      obtain ⟨_, c1, c2⟩ := W.1.2 told p' hs
      obtain ⟨a, b, c, e, rfl⟩ := len4 a1
      refine ⟨c1, c2, ?_, ?_, ⟨?_, ?_⟩, ?_⟩
      · show RB3 d.1 (σ4.1 4) (σ4.2.1 0)
        rw [W.2.1 4 (by omega) (by omega), W.2.2.1 0 (by omega)]
        exact hb
      · show σ4.1 5 = _ ∧ ∀ (i : Nat) (q : H4), d.2.1[i]? = some q → at4 q (σ4.2.1 1) (4 * i)
        rw [W.2.1 5 (by omega) (by omega), W.2.2.1 1 (by omega)]
        exact hh
      · show nI (d.2.2.1.length + 1) = nI (d.2.2.1 ++ [(a, b, c, e)]).length
        rw [List.length_append]
        rfl
      · exact h4_push hcl W.2.2.2.1 a2
      · show ∀ y, y < 6 → σ4.2.1 3 y = sunI (d.2.2.2 y)
        rw [W.2.2.1 3 (by omega)]
        exact hsu
theorem rp_L {σ σ1 σ2 : ST} {p w : Nat} {m m' y mm : Int32} (u1 : fX11_untold FU σ = some m) (hm : ¬ m = 0) (h17 : σ.1 17 = nI p) (w1 : fX11_untold FU (sI σ 17 (nI p + 1)) = some m') (g1 : fX11_sign FU (sI σ 17 (nI p + 1)) m' = some (y, σ1)) (g2 : fX11_sign FU σ1 65535 = some (mm, σ2)) (hy : y = nI w) (hw : w < 6) : fX11_readPart FU σ 76 = some (sA σ2 3 w (if σ2.1 18 = -9 then mm else σ2.2.1 3 w)) := by
  unfold fX11_readPart
  rw [if_neg (by decide), if_neg (by decide), if_pos rfl, u1, bd_some, if_neg hm, nm_go, h17, w1, bd_some, g1, bd_some]
  dsimp only
  rw [g2, bd_some]
  dsimp only
  rw [hy, if_neg (nI_in (show w < 6 by omega) (by omega)), if_neg (nI_in (show w < 6 by omega) (by omega)), nI_clamp (by omega), nm_go, nm_go]
  by_cases c : σ2.1 18 = -9
  · rw [if_pos c, if_pos c]
  · rw [if_neg c, if_neg c]
theorem TX_f {len : Nat} {tx : Nat → Nat} {σ σ' : ST} (h : TX len tx σ) (h1 : σ'.1 16 = σ.1 16) (h2 : σ'.2.1 15 = σ.2.1 15) : TX len tx σ' := ⟨h.1, h1.trans h.2.1, fun i hi => by rw [h2]; exact h.2.2 i hi⟩
theorem rp_cliff {len : Nat} {tx : Nat → Nat} {d : DD} {p : Nat} {σ : ST} (hX : TX len tx σ) (hd : RD d σ) (hv : vD d) (h18 : σ.1 18 = -9) (h17 : σ.1 17 = nI p) (hp : p < len) (ho : ¬ mskN d.2.2.2 6 = 63) : ∃ σ', fX11_readPart FU σ 76 = some σ' ∧ rpk σ σ' ∧ rpR len (fin d 76 (itp len tx (vfL 76) (okL d 76) (kL 76) (.inr ([], p + 1)))) σ' := by
  obtain ⟨hb, hh, hcl, hsu⟩ := hd
  obtain ⟨m, u1, u2, u3⟩ := utM hv.2.1.2.2.2.2 hsu
  obtain ⟨m', w1, w2, _⟩ := utM (σ := sI σ 17 (nI p + 1)) hv.2.1.2.2.2.2 hsu
  have hf : ∀ i c, vfL 76 i c = vlu c := fun i c => if_neg (by omega)
  obtain ⟨y, σ1, g1, M1, f1, y1, y2⟩ := sgM (len := len) (tx := tx) (vf := vfL 76) (ok := cliB d.2.2.2) (s := .inr ([], p + 1)) (σ := sI σ 17 (nI p + 1)) (m := m') (TX_f hX rfl rfl) (MR_r (by omega) h18 (nI_1 p)) (fun told _ _ c => hf _ c) (fun told p' e v hv => by
    cases e
    exact w2 v (by omega))
  obtain ⟨mm, σ2, g2, M2, f2, m1, m2⟩ := sgM (len := len) (tx := tx) (vf := vfL 76) (ok := cliB d.2.2.2) (σ := σ1) (m := 65535) (TX_f hX (f1.1 16 (by omega) (by omega)) (by rw [f1.2]; rfl)) M1 (fun told _ _ c => hf _ c) (fun told p' e v hv => by
    obtain ⟨t0, w, p0, e1, e2, e3, e4, e5, e6⟩ := stp_r e
    cases e1
    subst e6
    show _ = decide (v < 16)
    rw [decide_eq_true hv]
    exact bit_64k ⟨v, hv⟩)
  have fi : ∀ k, k ≠ 17 → k ≠ 18 → σ2.1 k = σ.1 k := fun k a b => by rw [f2.1 k a b, f1.1 k a b, st_I1, if_neg a]
  have fa : σ2.2 = σ.2 := by rw [f2.2, f1.2]; rfl
  have hk : ∀ (w : Nat) (z : Int32), rpk σ (sA σ2 3 w z) := fun w z => ⟨fun k _ _ _ a b => fi k a b, fun k hk => by rw [st_A2, if_neg (by omega), fa]⟩
  show ∃ σ', _ ∧ _ ∧ rpR len (fin d 76 (stp len tx (vfL 76) (cliB d.2.2.2) (stp len tx (vfL 76) (cliB d.2.2.2) (.inr ([], p + 1))))) σ'
  cases hs1 : stp len tx (vfL 76) (cliB d.2.2.2) (.inr ([], p + 1)) with
  | inl f =>
    rw [hs1] at M2
    refine ⟨_, rp_L u1 (fun e => ho (u3.mp e)) h17 w1 g1 g2 (w := 0) (y2 f hs1) (by omega), hk _ _, fun f' e => ?_, fun _ _ e => by cases e⟩
    cases e
    exact M2.1 f rfl
  | inr q =>
    obtain ⟨t1, p1⟩ := q
    obtain ⟨t0, w, p0, e1, e2, e3, e4, e5, e6⟩ := stp_r hs1
    cases e1
    have e6 : t1 = [w] := e6
    subst e6
    have hw : (decide (w < 6) && (d.2.2.2 w).isNone) = true := e5
    rw [Bool.and_eq_true, decide_eq_true_iff] at hw
    have hy : y = nI w := y1 [] w p1 hs1
    rw [hs1] at M2 m1 m2
    refine ⟨_, rp_L u1 (fun e => ho (u3.mp e)) h17 w1 g1 g2 (w := w) hy hw.1, hk _ _, ?_⟩
    cases hs2 : stp len tx (vfL 76) (cliB d.2.2.2) (.inr ([w], p1)) with
    | inl f =>
      refine ⟨fun f' e => ?_, fun _ _ e => by cases e⟩
      cases e
      exact M2.1 f hs2
    | inr q =>
      obtain ⟨t2, p2⟩ := q
      obtain ⟨t0, u, p0, b1, b2, b3, b4, b5, b6⟩ := stp_r hs2
      cases b1
      have b6 : t2 = [w, u] := b6
      subst b6
      obtain ⟨_, c1, c2⟩ := M2.2 _ _ hs2
      refine ⟨fun f' e => (by cases e), fun d' p1 e => ?_⟩
      cases e
      refine ⟨c1, c2, ?_, ?_, ?_, fun z hz => ?_⟩
      · show RB3 d.1 (σ2.1 4) (σ2.2.1 0)
        rw [fi 4 (by omega) (by omega), fa]
        exact hb
      · show σ2.1 5 = _ ∧ ∀ (i : Nat) (q : H4), d.2.1[i]? = some q → at4 q (σ2.2.1 1) (4 * i)
        rw [fi 5 (by omega) (by omega), fa]
        exact hh
      · show σ2.1 6 = _ ∧ ∀ (i : Nat) (q : H4), d.2.2.1[i]? = some q → at4 q (σ2.2.1 2) (4 * i)
        rw [fi 6 (by omega) (by omega), fa]
        exact hcl
      · rw [aA_at, if_pos rfl, if_pos c1, m1 [w] u p2 hs2]
        show _ = sunI (if z = w then some u else d.2.2.2 z)
        by_cases hc : z = w
        · rw [if_pos hc, if_pos hc]
          rfl
        · rw [if_neg hc, if_neg hc, fa]
          exact hsu z hz
/-- a body -/
def kI (o : Option Nat) : Int32 := match o with
  | none => -9
  | some k => nI k
theorem kndM : ∀ c : Fin 256, fX11_kindOf FU (nI c.1) = some (kI (knd c.1)) := by decide +kernel
theorem knd_lt {c k : Nat} (h : knd c = some k) : k < 6 := by
  unfold knd at h
  by_cases h1 : c = 109
  · rw [if_pos h1] at h
    cases h
    omega
  rw [if_neg h1] at h
  by_cases h2 : c = 99
  · rw [if_pos h2] at h
    cases h
    omega
  rw [if_neg h2] at h
  by_cases h3 : c = 107
  · rw [if_pos h3] at h
    cases h
    omega
  rw [if_neg h3] at h
  by_cases h4 : c = 115
  · rw [if_pos h4] at h
    cases h
    omega
  rw [if_neg h4] at h
  by_cases h5 : c = 97
  · rw [if_pos h5] at h
    cases h
    omega
  rw [if_neg h5] at h
  by_cases h6 : c = 116
  · rw [if_pos h6] at h
    cases h
    omega
  rw [if_neg h6] at h
  cases h
theorem rp_B {len : Nat} {tx : Nat → Nat} {d : DD} {p : Nat} {σ : ST} (hX : TX len tx σ) (hd : RD d σ) (hv : vD d) (h18 : σ.1 18 = -9) (h17 : σ.1 17 = nI p) (hp : p < len) (ho : d.1.length < 8) : ∃ σ', fX11_readBodyPart FU σ = some σ' ∧ rpk σ σ' ∧ rpR len (fin d 66 (itp len tx (vfL 66) (okL d 66) (kL 66) (.inr ([], p + 1)))) σ' := by
  obtain ⟨hb, hh, hcl, hsu⟩ := hd
  obtain ⟨h92, h16, hT⟩ := hX
  have hX : TX len tx σ := ⟨h92, h16, hT⟩
  show ∃ σ', _ ∧ _ ∧ rpR len (fin d 66 (itp len tx (vfL 66) (bodB d.1) 3 (.inr ([], p + 1)))) σ'
  have ei : itp len tx (vfL 66) (bodB d.1) 3 (.inr ([], p + 1)) = itp len tx (vfL 66) (bodB d.1) 2 (stp len tx (vfL 66) (bodB d.1) (.inr ([], p + 1))) := rfl
  unfold fX11_readBodyPart
  rw [nm_go, h17, nI_1]
  have a18 : (sI σ 17 (nI (p + 1))).1 18 = -9 := h18
  have a16 : (sI σ 17 (nI (p + 1))).1 16 = nI len := h16
  have a17 : (sI σ 17 (nI (p + 1))).1 17 = nI (p + 1) := rfl
  have hfail : stp len tx (vfL 66) (bodB d.1) (.inr ([], p + 1)) = .inl (p + 1) → ∃ σ', some (sI (sI σ 17 (nI (p + 1))) 18 (nI (p + 1))) = some σ' ∧ rpk σ σ' ∧ rpR len (fin d 66 (itp len tx (vfL 66) (bodB d.1) 3 (.inr ([], p + 1)))) σ' := fun e => by
    rw [ei, e, itp_l]
    refine ⟨_, rfl, ⟨fun k _ _ _ a b => by rw [st_I1, if_neg b, st_I1, if_neg a], fun _ _ => rfl⟩, fun f e => ?_, fun _ _ e => by cases e⟩
    cases e
    exact ⟨by omega, rfl⟩
  rw [if_pos a18, a16, a17]
  by_cases hc : len ≤ p + 1
  · rw [if_pos (nI_le hc (by omega)), fail_a a18 a17, bd_some]
    exact hfail (stp_e hc)
  · obtain ⟨hc1, hc2⟩ := hT (p + 1) (by omega)
    rw [if_neg (nI_ge (by omega) (by omega)), if_neg (nI_in (show p + 1 < 92 by omega) (by omega)), nI_clamp (by omega), show (sI σ 17 (nI (p + 1))).2.1 15 (p + 1) = nI (tx (p + 1)) from hc2, kndM ⟨tx (p + 1), hc1⟩, bd_some]
    have hvf : vfL 66 ([] : List Nat).length (tx (p + 1)) = knd (tx (p + 1)) := rfl
    cases hk : knd (tx (p + 1)) with
    | none =>
      rw [if_pos (show kI none = -9 from rfl), fail_a a18 a17, bd_some]
      exact hfail (stp_n (Or.inl (hvf.trans hk)))
    | some k =>
      have hk6 := knd_lt hk
      have es := stp_y (len := len) (tx := tx) (vf := vfL 66) (ok := bodB d.1) (told := []) (p := p + 1) (by omega) (hvf.trans hk) (decide_eq_true hk6)
      rw [if_neg (show ¬ kI (some k) = -9 from n9 (by omega)), nm_go, nI_1]
      have hb2 : RB3 d.1 ((sI (sI σ 17 (nI (p + 1))) 17 (nI (p + 1 + 1))).1 4) ((sI (sI σ 17 (nI (p + 1))) 17 (nI (p + 1 + 1))).2.1 0) := hb
      obtain ⟨z, z1, z2⟩ := cl73_loop (v1 := kI (some k)) hv.1 hv.2.2 hb2 10 FU 0 0 (by omega) (by unfold FU; omega)
      rw [show nI 0 = (0 : Int32) from rfl] at z1
      rw [z1, bd_some]
      have es1 : stp len tx (vfL 66) (bodB d.1) (.inr ([], p + 1)) = .inr ([k], p + 1 + 1) := es
      rw [ei, es1]
      obtain ⟨x, σ1, g1, M1, f1, y1, y2⟩ := sgM (len := len) (tx := tx) (vf := vfL 66) (ok := bodB d.1) (s := .inr ([k], p + 1 + 1)) (σ := sI (sI σ 17 (nI (p + 1))) 17 (nI (p + 1 + 1))) (m := z.1) (TX_f hX rfl rfl) (MR_r (by omega) h18 rfl) (fun told p' e c => by cases e; rfl) (fun told p' e v hv => by
        cases e
        rw [z2 v (by omega), bit_0, Bool.false_or, decide_eq_decide.mpr (show (0 ≤ v ∧ v < 10) ↔ v < 10 by omega)]
        rfl)
      rw [g1, bd_some]
      dsimp only
      have f1i : ∀ k, k ≠ 17 → k ≠ 18 → σ1.1 k = σ.1 k := fun k a b => by rw [f1.1 k a b, st_I1, if_neg a, st_I1, if_neg a]
      have f1a : σ1.2 = σ.2 := f1.2
      have hb1 : RB3 d.1 (σ1.1 4) (σ1.2.1 0) := by
        rw [f1i 4 (by omega) (by omega), f1a]
        exact hb
      obtain ⟨w, hw, hxw, hsw⟩ : ∃ w, w < 10 ∧ x = nI w ∧ ∀ t1 p1, stp len tx (vfL 66) (bodB d.1) (.inr ([k], p + 1 + 1)) = .inr (t1, p1) → t1 = [k, w] := by
        cases hs1 : stp len tx (vfL 66) (bodB d.1) (.inr ([k], p + 1 + 1)) with
        | inl f => exact ⟨0, by omega, y2 f hs1, fun _ _ e => by cases e⟩
        | inr q =>
          obtain ⟨t1, p1⟩ := q
          obtain ⟨t0, w, p0, e1, e2, e3, e4, e5, e6⟩ := stp_r hs1
          cases e1
          have e6 : t1 = [k, w] := e6
          subst e6
          have hw : (decide (w < 10) && decide (colN w d.1 < 6)) = true := e5
          rw [Bool.and_eq_true, decide_eq_true_iff] at hw
          exact ⟨w, hw.1, y1 [k] w p1 hs1, fun _ _ e => by cases e; rfl⟩
      obtain ⟨m, r1, r2⟩ := frM (x := w) hv.1 hb1 hw
      rw [hxw, r1, bd_some]
      obtain ⟨y, σ2, g2, M2, f2, v1, v2⟩ := sgM (len := len) (tx := tx) (vf := vfL 66) (ok := bodB d.1) (σ := σ1) (m := m) (TX_f hX (f1i 16 (by omega) (by omega)) (by rw [f1a])) M1 (fun told p' e c => by
        rw [hsw told p' e]
        rfl) (fun told p' e v hv => by
        rw [hsw told p' e, r2 v (by omega)]
        rfl)
      rw [g2, bd_some]
      dsimp only
      have fi : ∀ k, k ≠ 17 → k ≠ 18 → σ2.1 k = σ.1 k := fun k a b => by rw [f2.1 k a b, f1i k a b]
      have fa : σ2.2 = σ.2 := by rw [f2.2, f1a]
      have h4 : σ2.1 4 = nI d.1.length := (fi 4 (by omega) (by omega)).trans hb.1
      rw [h4, m30, if_neg (nI_in (show 3 * d.1.length < 24 by omega) (by omega)), nI_clamp (show 3 * d.1.length < 2 ^ 31 by omega), nm_go, st_A1, h4, m31, if_neg (nI_in (show 3 * d.1.length + 1 < 24 by omega) (by omega)), nI_clamp (show 3 * d.1.length + 1 < 2 ^ 31 by omega), nm_go, st_A1, st_A1, h4, m32, if_neg (nI_in (show 3 * d.1.length + 2 < 24 by omega) (by omega)), nI_clamp (show 3 * d.1.length + 2 < 2 ^ 31 by omega), nm_go, nm_go, st_A1, st_A1, st_A1, h4]
      refine ⟨_, rfl, ⟨fun j j4 _ _ a b => ?_, fun j hj => ?_⟩, ?_⟩
      · rw [st_I1, if_neg j4]
        exact fi j a b
      · show (sA _ 0 _ _).2.1 j = _
        rw [st_A2, if_neg (by omega), st_A2, if_neg (by omega), st_A2, if_neg (by omega), fa]
      · show rpR len (fin d 66 (stp len tx (vfL 66) (bodB d.1) (stp len tx (vfL 66) (bodB d.1) (.inr ([k], p + 1 + 1))))) _
        cases hs2 : stp len tx (vfL 66) (bodB d.1) (stp len tx (vfL 66) (bodB d.1) (.inr ([k], p + 1 + 1))) with
        | inl f =>
          refine ⟨fun f' e => ?_, fun _ _ e => by cases e⟩
          cases e
          exact M2.1 f hs2
        | inr q =>
          obtain ⟨t2, p2⟩ := q
          obtain ⟨t0, u, p0, e1, e2, e3, e4, e5, e6⟩ := stp_r hs2
          have e7 := hsw t0 p0 e1
          subst e7
          have e6 : t2 = [k, w, u] := e6
          subst e6
          obtain ⟨_, c1, c2⟩ := M2.2 _ _ hs2
          refine ⟨fun f' e => (by cases e), fun d' p1 e => ?_⟩
          cases e
          have hy : y = nI u := v1 [k, w] u p2 hs2
          subst hy
          have hb3 : RB3 d.1 (nI d.1.length) (σ2.2.1 0) := by
            rw [fa]
            exact ⟨rfl, hb.2⟩
          refine ⟨c1, c2, ?_, ?_, ?_, ?_⟩
          · have := RB3_push (q := (k, w, u)) hb3
            have e0 : (sA (sA (sA σ2 0 (3 * d.1.length) (nI k)) 0 (3 * d.1.length + 1) (nI w)) 0 (3 * d.1.length + 2) (nI u)).2.1 0 = upd (upd (upd (σ2.2.1 0) (3 * d.1.length) (nI k)) (3 * d.1.length + 1) (nI w)) (3 * d.1.length + 2) (nI u) := rfl
            show RB3 (d.1 ++ [(k, w, u)]) (nI d.1.length + 1) ((sA (sA (sA σ2 0 (3 * d.1.length) (nI k)) 0 (3 * d.1.length + 1) (nI w)) 0 (3 * d.1.length + 2) (nI u)).2.1 0)
            rw [e0]
            exact this
          · show σ2.1 5 = _ ∧ ∀ (i : Nat) (q : H4), d.2.1[i]? = some q → at4 q (σ2.2.1 1) (4 * i)
            rw [fi 5 (by omega) (by omega), fa]
            exact hh
          · show σ2.1 6 = _ ∧ ∀ (i : Nat) (q : H4), d.2.2.1[i]? = some q → at4 q (σ2.2.1 2) (4 * i)
            rw [fi 6 (by omega) (by omega), fa]
            exact hcl
          · show ∀ y, y < 6 → σ2.2.1 3 y = sunI (d.2.2.2 y)
            rw [fa]
            exact hsu
theorem rp_no {len : Nat} {tx : Nat → Nat} {d : DD} {p : Nat} {σ : ST} (hX : TX len tx σ) (hd : RD d σ) (hv : vD d) (h18 : σ.1 18 = -9) (h17 : σ.1 17 = nI p) (hp : p < len) (ho : opB d (tx p) = false) : fX11_readPart FU σ (nI (tx p)) = some (sI σ 18 (nI p)) := by
  obtain ⟨hb, ⟨hn, hh⟩, ⟨hcn, hcl⟩, hsu⟩ := hd
  obtain ⟨hc, _⟩ := hX.2.2 p hp
  have fl : fX11_fail FU σ = some (sI σ 18 (nI p)) := fail_a h18 h17
  obtain ⟨m, u1, u2, u3⟩ := utM hv.2.1.2.2.2.2 hsu
  unfold opB at ho
  unfold fX11_readPart
  by_cases h1 : tx p = 66
  · rw [if_pos h1, decide_eq_false_iff_not] at ho
    have := hv.1.1
    rw [h1, if_pos (show nI 66 = 66 from rfl), hb.1, if_pos (show (8 : Int32) ≤ nI d.1.length from nI_le (a := 8) (by omega) (by omega)), if_neg (by decide), if_neg (by decide), if_neg (by decide), fl, bd_some]
  · rw [if_neg h1] at ho
    rw [if_neg (show ¬ nI (tx p) = 66 from fun e => h1 ((nI_eq (b := 66) (by omega) (by omega)).mp e))]
    by_cases h2 : tx p = 72
    · rw [if_pos h2, decide_eq_false_iff_not] at ho
      have := hv.2.1.1
      rw [h2, if_pos (show nI 72 = 72 from rfl), hn, if_pos (show (3 : Int32) ≤ nI d.2.1.length from nI_le (a := 3) (by omega) (by omega)), if_neg (by decide), if_neg (by decide), fl, bd_some]
    · rw [if_neg h2] at ho
      rw [if_neg (show ¬ nI (tx p) = 72 from fun e => h2 ((nI_eq (b := 72) (by omega) (by omega)).mp e))]
      by_cases h3 : tx p = 76
      · rw [if_pos h3] at ho
        have h63 : mskN d.2.2.2 6 = 63 := by
          by_cases c : mskN d.2.2.2 6 = 63
          · exact c
          · rw [decide_eq_false c] at ho
            cases ho
        rw [h3, if_pos (show nI 76 = 76 from rfl), u1, bd_some, if_pos (u3.mpr h63), if_neg (by decide), fl, bd_some]
      · rw [if_neg h3] at ho
        rw [if_neg (show ¬ nI (tx p) = 76 from fun e => h3 ((nI_eq (b := 76) (by omega) (by omega)).mp e))]
        by_cases h4 : tx p = 79
        · rw [if_pos h4, decide_eq_false_iff_not] at ho
          have := hv.2.1.2.2.1
          rw [h4, if_pos (show nI 79 = 79 from rfl), hcn, if_pos (show (4 : Int32) ≤ nI d.2.2.1.length from nI_le (a := 4) (by omega) (by omega)), fl, bd_some]
        · rw [if_neg (show ¬ nI (tx p) = 79 from fun e => h4 ((nI_eq (b := 79) (by omega) (by omega)).mp e)), fl, bd_some]
theorem rp_part {len : Nat} {tx : Nat → Nat} {d : DD} {p : Nat} {σ : ST} (hX : TX len tx σ) (hd : RD d σ) (hv : vD d) (h18 : σ.1 18 = -9) (h17 : σ.1 17 = nI p) (hp : p < len) : ∃ σ', fX11_readPart FU σ (nI (tx p)) = some σ' ∧ rpk σ σ' ∧ rpR len (partO len tx d p) σ' := by
  cases ho : opB d (tx p) with
  | false =>
    refine ⟨_, rp_no hX hd hv h18 h17 hp ho, ⟨fun k _ _ _ _ b => by rw [st_I1, if_neg b], fun _ _ => rfl⟩, ?_⟩
    rw [par_n ho]
    refine ⟨fun f e => ?_, fun _ _ e => by cases e⟩
    cases e
    exact ⟨by omega, rfl⟩
  | true =>
    rw [par_y ho]
    rcases op_c ho with ⟨e, hl⟩ | ⟨e, hl⟩ | ⟨e, hl⟩ | ⟨e, hl⟩
    · rw [e]
      obtain ⟨σ', g1, g2, g3⟩ := rp_B hX hd hv h18 h17 hp hl
      refine ⟨σ', ?_, g2, g3⟩
      unfold fX11_readPart
      rw [if_pos (show nI 66 = 66 from rfl), hd.1.1, if_neg (show ¬ (8 : Int32) ≤ nI d.1.length from nI_ge (b := 8) hl (by omega)), g1, bd_some]
    · rw [e]
      exact rp_hill hX hd h18 h17 hp hl
    · rw [e]
      exact rp_cliff hX hd hv h18 h17 hp hl
    · rw [e]
      exact rp_cloud hX hd h18 h17 hp hl
