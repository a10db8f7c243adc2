/-! the class reads: the end of a part, all bytes -/
def mb (b0 b1 b2 b3 b4 b5 : Bool) : Nat := 0 + (if b0 then 2 ^ 0 else 0) + (if b1 then 2 ^ 1 else 0) + (if b2 then 2 ^ 2 else 0) + (if b3 then 2 ^ 3 else 0) + (if b4 then 2 ^ 4 else 0) + (if b5 then 2 ^ 5 else 0)
theorem mb_or : ∀ b0 b1 b2 b3 b4 b5 : Bool, ∀ y : Fin 6, nI (mb b0 b1 b2 b3 b4 b5) ||| ((1 : Int32) <<< (nI y.1 &&& 31)) = nI (mb (b0 || decide (0 = y.1)) (b1 || decide (1 = y.1)) (b2 || decide (2 = y.1)) (b3 || decide (3 = y.1)) (b4 || decide (4 = y.1)) (b5 || decide (5 = y.1))) := by decide +kernel
theorem msk_or {su : Nat → Option Nat} {y m : Nat} (hy : y < 6) : nI (mskN su 6) ||| ((1 : Int32) <<< (nI y &&& 31)) = nI (mskN (fun z => if z = y then some m else su z) 6) := by
  have e : ∀ z, (if z = y then some m else su z).isSome = ((su z).isSome || decide (z = y)) := fun z => by
    by_cases c : z = y
    · rw [if_pos c, decide_eq_true c, Bool.or_true]
      rfl
    · rw [if_neg c, decide_eq_false c, Bool.or_false]
  have h := mb_or (su 0).isSome (su 1).isSome (su 2).isSome (su 3).isSome (su 4).isSome (su 5).isSome ⟨y, hy⟩
  rw [← e 0, ← e 1, ← e 2, ← e 3, ← e 4, ← e 5] at h
  exact h
theorem ahC {n : Nat} {σ : ST} {f : Nat → Int32} (hn : σ.1 3 = nI n) (h : n < 3) : fX4_addHill FU σ f = some (sI (sW σ (10 + n) (va_cpy f (σ.2.1 (10 + n)) 0 0 4)) 3 (nI (n + 1))) := by
  unfold fX4_addHill
  rw [hn, if_neg (show ¬ (3 : Int32) ≤ nI n from nI_ge (b := 3) h (by omega))]
  rcases (show n = 0 ∨ n = 1 ∨ n = 2 by omega) with rfl | rfl | rfl
  · rw [if_pos (show nI 0 = 0 from rfl)]
    show some (sI _ 3 (σ.1 3 + 1)) = _
    rw [hn]
    rfl
  · rw [if_neg (show ¬ nI 1 = 0 by decide), if_pos (show nI 1 = 1 from rfl)]
    show some (sI _ 3 (σ.1 3 + 1)) = _
    rw [hn]
    rfl
  · rw [if_neg (show ¬ nI 2 = 0 by decide), if_neg (show ¬ nI 2 = 1 by decide), if_pos (show nI 2 = 2 from rfl)]
    show some (sI _ 3 (σ.1 3 + 1)) = _
    rw [hn]
    rfl
theorem acC {n : Nat} {σ : ST} {f : Nat → Int32} (hn : σ.1 4 = nI n) (h : n < 4) : fX4_addCloud FU σ f = some (sI (sW σ (20 + n) (va_cpy f (σ.2.1 (20 + n)) 0 0 4)) 4 (nI (n + 1))) := by
  unfold fX4_addCloud
  rw [hn, if_neg (show ¬ (4 : Int32) ≤ nI n from nI_ge (b := 4) h (by omega))]
  rcases (show n = 0 ∨ n = 1 ∨ n = 2 ∨ n = 3 by omega) with rfl | rfl | rfl | rfl
  · rw [if_pos (show nI 0 = 0 from rfl)]
    show some (sI _ 4 (σ.1 4 + 1)) = _
    rw [hn]
    rfl
  · rw [if_neg (show ¬ nI 1 = 0 by decide), if_pos (show nI 1 = 1 from rfl)]
    show some (sI _ 4 (σ.1 4 + 1)) = _
    rw [hn]
    rfl
  · rw [if_neg (show ¬ nI 2 = 0 by decide), if_neg (show ¬ nI 2 = 1 by decide), if_pos (show nI 2 = 2 from rfl)]
    show some (sI _ 4 (σ.1 4 + 1)) = _
    rw [hn]
    rfl
  · rw [if_neg (show ¬ nI 3 = 0 by decide), if_neg (show ¬ nI 3 = 1 by decide), if_neg (show ¬ nI 3 = 2 by decide), if_pos (show nI 3 = 3 from rfl)]
    show some (sI _ 4 (σ.1 4 + 1)) = _
    rw [hn]
    rfl
theorem cp4 {f g : Nat → Int32} {a b c e : Nat} (h : ∀ i v, [a, b, c, e][i]? = some v → f i = nI v) : at4 (a, b, c, e) (va_cpy f g 0 0 4) 0 := by
  refine ⟨?_, ?_, ?_, ?_⟩
  · exact (cpy_ta (f := f) (g := g) (a := 0) (j := 0) (n := 4) (by omega)).trans (h 0 a rfl)
  · exact (cpy_ta (f := f) (g := g) (a := 0) (j := 1) (n := 4) (by omega)).trans (h 1 b rfl)
  · exact (cpy_ta (f := f) (g := g) (a := 0) (j := 2) (n := 4) (by omega)).trans (h 2 c rfl)
  · exact (cpy_ta (f := f) (g := g) (a := 0) (j := 3) (n := 4) (by omega)).trans (h 3 e rfl)
theorem enP {d : DD} {L : Nat} {told : List Nat} {σe σb σd : ST} (hv : vD d) (hc : RC d σb σd) (ho : opB d L = true) (h3 : σe.1 3 = nI L) (ht : ∀ i v, told[i]? = some v → σe.2.1 1 i = nI v) (hl : told.length = kL L) (hk : ∀ i v, told[i]? = some v → okL d L (told.take i) v = true) : ∃ σb' σd' : ST, fX5_endPart FU σe σb σd = some (sI (sI σe 3 0) 2 0, σb', σd') ∧ RC (addL d L told) σb' σd' := by
  obtain ⟨hb, ⟨hn, hh⟩, ⟨hcn, hcl⟩, hm, hsu⟩ := hc
  unfold fX5_endPart
  rw [h3]
  rcases op_c ho with ⟨rfl, h8⟩ | ⟨rfl, h8⟩ | ⟨rfl, h8⟩ | ⟨rfl, h8⟩
  · obtain ⟨k, x, y, rfl⟩ := len3 hl
    have t0 : σe.2.1 1 (0 : Int32).toNatClampNeg = nI k := ht 0 k rfl
    have t1 : σe.2.1 1 (1 : Int32).toNatClampNeg = nI x := ht 1 x rfl
    have t2 : σe.2.1 1 (2 : Int32).toNatClampNeg = nI y := ht 2 y rfl
    obtain ⟨σb', i1, i2⟩ := ins (b := d.1.length) (q := (k, x, y)) hb h8 (Nat.le_refl _)
    rw [List.insertIdx_length_self] at i2
    rw [if_pos (show nI 66 = 66 from rfl), hb.1, t0, t1, t2, i1, bd_some, nm_go, nm_go]
    exact ⟨_, _, rfl, i2, ⟨hn, hh⟩, ⟨hcn, hcl⟩, hm, hsu⟩
  · obtain ⟨a, b, c, e, rfl⟩ := len4 hl
    rw [if_neg (by decide), if_pos (show nI 72 = 72 from rfl), ahC hn h8, bd_some, nm_go, nm_go]
    refine ⟨_, _, rfl, hb, ⟨?_, fun i q hi => ?_⟩, ⟨hcn, fun i q hi => ?_⟩, hm, fun z m hz hs => ?_⟩
    · show nI (d.2.1.length + 1) = nI (d.2.1 ++ [(a, b, c, e)]).length
      rw [List.length_append]
      rfl
    · have hi : (d.2.1 ++ [(a, b, c, e)])[i]? = some q := hi
      show at4 q ((sW σd (10 + d.2.1.length) _).2.1 (10 + i)) 0
      rw [st_W2]
      by_cases hc : i < d.2.1.length
      · rw [List.getElem?_append_left hc] at hi
        rw [if_neg (by omega)]
        exact hh i q hi
      · rw [List.getElem?_append_right (by omega)] at hi
        have hl : i - d.2.1.length < 1 := (List.getElem?_eq_some_iff.mp hi).1
        have ei : i = d.2.1.length := by omega
        subst ei
        rw [Nat.sub_self] at hi
        cases hi
        rw [if_pos rfl]
        exact cp4 ht
    · show at4 q ((sW σd (10 + d.2.1.length) _).2.1 (20 + i)) 0
      rw [st_W2, if_neg (by omega)]
      exact hcl i q hi
    · show (sW σd (10 + d.2.1.length) _).2.1 2 z = _
      rw [st_W2, if_neg (by omega)]
      exact hsu z m hz hs
  · obtain ⟨y, m, rfl⟩ := len2 hl
    have hy : (decide (y < 6) && (d.2.2.2 y).isNone) = true := hk 0 y rfl
    rw [Bool.and_eq_true, decide_eq_true_iff] at hy
    have t0 : σe.2.1 1 (0 : Int32).toNatClampNeg = nI y := ht 0 y rfl
    have t1 : σe.2.1 1 (1 : Int32).toNatClampNeg = nI m := ht 1 m rfl
    have had : fX4_addCliff FU σd (nI y) (nI m) = some (sA (sI σd 5 (nI (mskN (fun z => if z = y then some m else d.2.2.2 z) 6))) 2 y (nI m)) := by
      unfold fX4_addCliff
      rw [show fX10_isBelow FU (nI y) 6 = some 1 from bel_in (N := 6) hy.1 (by omega), bd_some, if1, hm, msk_or (m := m) hy.1, nm_go, if_neg (nI_in (show y < 6 from hy.1) (by omega)), nI_clamp (by omega), nm_go]
    rw [if_neg (by decide), if_neg (by decide), if_pos (show nI 76 = 76 from rfl), t0, t1, had, bd_some, nm_go, nm_go]
    refine ⟨_, _, rfl, hb, ⟨hn, fun i q hi => ?_⟩, ⟨hcn, fun i q hi => ?_⟩, rfl, fun z u hz hs => ?_⟩
    · show at4 q ((sA _ 2 y (nI m)).2.1 (10 + i)) 0
      rw [st_A2, if_neg (by omega)]
      exact hh i q hi
    · show at4 q ((sA _ 2 y (nI m)).2.1 (20 + i)) 0
      rw [st_A2, if_neg (by omega)]
      exact hcl i q hi
    · have hs : (if z = y then some m else d.2.2.2 z) = some u := hs
      rw [aA_at, if_pos rfl]
      by_cases c : z = y
      · rw [if_pos c] at hs ⊢
        cases hs
        rfl
      · rw [if_neg c] at hs ⊢
        exact hsu z u hz hs
  · obtain ⟨a, b, c, e, rfl⟩ := len4 hl
    rw [if_neg (by decide), if_neg (by decide), if_neg (by decide), acC hcn h8, bd_some, nm_go, nm_go]
    have h3 := hv.2.1.1
    refine ⟨_, _, rfl, hb, ⟨hn, fun i q hi => ?_⟩, ⟨?_, fun i q hi => ?_⟩, hm, fun z m hz hs => ?_⟩
    · have hi : d.2.1[i]? = some q := hi
      have hil := (List.getElem?_eq_some_iff.mp hi).1
      show at4 q ((sW σd (20 + d.2.2.1.length) _).2.1 (10 + i)) 0
      rw [st_W2, if_neg (by omega)]
      exact hh i q hi
    · show nI (d.2.2.1.length + 1) = nI (d.2.2.1 ++ [(a, b, c, e)]).length
      rw [List.length_append]
      rfl
    · have hi : (d.2.2.1 ++ [(a, b, c, e)])[i]? = some q := hi
      show at4 q ((sW σd (20 + d.2.2.1.length) _).2.1 (20 + i)) 0
      rw [st_W2]
      by_cases hc : i < d.2.2.1.length
      · rw [List.getElem?_append_left hc] at hi
        rw [if_neg (by omega)]
        exact hcl i q hi
      · rw [List.getElem?_append_right (by omega)] at hi
        have hl : i - d.2.2.1.length < 1 := (List.getElem?_eq_some_iff.mp hi).1
        have ei : i = d.2.2.1.length := by omega
        subst ei
        rw [Nat.sub_self] at hi
        cases hi
        rw [if_pos rfl]
        exact cp4 ht
    · show (sW σd (20 + d.2.2.1.length) _).2.1 2 z = _
      rw [st_W2, if_neg (by omega)]
      exact hsu z m hz hs
/-- a byte where no part is open -/
theorem opC {d : DD} {σe σb σd : ST} {c : Nat} (hv : vD d) (hc : RC d σb σd) (h256 : c < 256) : fX5_opensPart FU σe σb σd (nI c) = some (if opB d c then 1 else 0) := by
  obtain ⟨hb, ⟨hn, hh⟩, ⟨hcn, hcl⟩, hm, hsu⟩ := hc
  have v1 := hv.1.1
  have v2 := hv.2.1.1
  have v3 := hv.2.1.2.2.1
  have v4 := msk_lt d.2.2.2
  have ne : ∀ b, b < 256 → ¬ c = b → ¬ nI c = nI b := fun b hb h e => h ((nI_eq (by omega) (by omega)).mp e)
  unfold fX5_opensPart opB
  by_cases h1 : c = 66
  · rw [if_pos h1, h1, if_pos (show nI 66 = 66 from rfl), hb.1]
    by_cases c2 : d.1.length < 8
    · rw [if_neg (show ¬ (8 : Int32) ≤ nI d.1.length from nI_ge (b := 8) c2 (by omega)), decide_eq_true c2]
      rfl
    · rw [if_pos (show (8 : Int32) ≤ nI d.1.length from nI_le (a := 8) (by omega) (by omega)), decide_eq_false c2]
      rfl
  rw [if_neg h1, if_neg (show ¬ nI c = 66 from ne 66 (by omega) h1)]
  by_cases h2 : c = 72
  · rw [if_pos h2, h2, if_pos (show nI 72 = 72 from rfl), hn]
    by_cases c2 : d.2.1.length < 3
    · rw [if_neg (show ¬ (3 : Int32) ≤ nI d.2.1.length from nI_ge (b := 3) c2 (by omega)), decide_eq_true c2]
      rfl
    · rw [if_pos (show (3 : Int32) ≤ nI d.2.1.length from nI_le (a := 3) (by omega) (by omega)), decide_eq_false c2]
      rfl
  rw [if_neg h2, if_neg (show ¬ nI c = 72 from ne 72 (by omega) h2)]
  by_cases h3 : c = 76
  · rw [if_pos h3, h3, if_pos (show nI 76 = 76 from rfl), hm]
    by_cases c2 : mskN d.2.2.2 6 = 63
    · rw [c2, if_pos (show nI 63 = 63 from rfl), decide_eq_true rfl]
      rfl
    · rw [if_neg (show ¬ nI (mskN d.2.2.2 6) = 63 from fun e => c2 ((nI_eq (b := 63) (by omega) (by omega)).mp e)), decide_eq_false c2]
      rfl
  rw [if_neg h3, if_neg (show ¬ nI c = 76 from ne 76 (by omega) h3)]
  by_cases h4 : c = 79
  · rw [if_pos h4, h4, if_pos (show nI 79 = 79 from rfl), hcn]
    by_cases c2 : d.2.2.1.length < 4
    · rw [if_neg (show ¬ (4 : Int32) ≤ nI d.2.2.1.length from nI_ge (b := 4) c2 (by omega)), decide_eq_true c2]
      rfl
    · rw [if_pos (show (4 : Int32) ≤ nI d.2.2.1.length from nI_le (a := 4) (by omega) (by omega)), decide_eq_false c2]
      rfl
  rw [if_neg h4, if_neg (show ¬ nI c = 79 from ne 79 (by omega) h4)]
  rfl
theorem ac0_n {d : DD} {σe σb σd : ST} {c : Nat} (hv : vD d) (hc : RC d σb σd) (h256 : c < 256) (h4 : σe.1 4 = 1) (h3 : σe.1 3 = 0) (ho : opB d c = false) : fX5_accepts FU σe σb σd (nI c) = some (0, sI σe 3 0, σb, σd) := by
  unfold fX5_accepts
  rw [if_neg (by rw [h4]; decide), if_pos h3, opC hv hc h256, bd_some, ho, if_neg (show ¬ false = true by decide), if0, nm_go, if_pos (show (sI σe 3 0).1 3 = 0 from rfl)]
theorem ac0_y {d : DD} {σe σb σd : ST} {c : Nat} (hv : vD d) (hc : RC d σb σd) (h256 : c < 256) (h4 : σe.1 4 = 1) (h3 : σe.1 3 = 0) (ho : opB d c = true) : fX5_accepts FU σe σb σd (nI c) = some (1, sI σe 3 (nI c), σb, σd) := by
  have hc0 : ¬ nI c = 0 := fun e => by
    have e : c = 0 := (nI_eq (b := 0) (by omega) (by omega)).mp e
    rcases op_c ho with ⟨h, _⟩ | ⟨h, _⟩ | ⟨h, _⟩ | ⟨h, _⟩ <;> omega
  unfold fX5_accepts
  rw [if_neg (by rw [h4]; decide), if_pos h3, opC hv hc h256, bd_some, ho, if_pos rfl, if1, nm_go, if_neg (show ¬ (sI σe 3 (nI c)).1 3 = 0 from hc0)]
/-- a byte of an open part -/
def acT (σe σb σd : ST) (r : Int32) : Option (Int32 × ST × ST × ST) :=
  (fX10_isBelow FU (σe.1 2) (4 : Int32)).bind fun r6 =>
  if r6 = 0 then
    some ((0 : Int32), σe, σb, σd)
  else
    (fX5_allows FU σe σb σd r).bind fun r9 =>
    if r9 = 0 then
      some ((0 : Int32), σe, σb, σd)
    else
      if (σe.1 2) < 0 ∨ 4 ≤ (σe.1 2).toNatClampNeg then none else
      nm (sA σe 1 (σe.1 2).toNatClampNeg r) fun (s13 : ST) =>
      nm (sI s13 2 ((s13.1 2) + (1 : Int32))) fun (s15 : ST) =>
      (fX5_signsOfPart FU s15).bind fun r17 =>
      if (s15.1 2) = r17 then
        (fX5_endPart FU s15 σb σd).bind fun r20 =>
        some ((1 : Int32), r20.1, r20.2.1, r20.2.2)
      else
        some ((1 : Int32), s15, σb, σd)
theorem ac_T {d : DD} {L : Nat} {told : List Nat} {σe σb σd : ST} {c : Nat} (ho : opB d L = true) (hE : RE σe L told) (hl : told.length < kL L) (h256 : c < 256) : ∃ r, fX5_accepts FU σe σb σd (nI c) = acT σe σb σd r ∧ (∀ v, vfL L told.length c = some v → r = nI v) ∧ (vfL L told.length c = none → r < 0) := by
  have hL : L = 66 ∨ L = 72 ∨ L = 76 ∨ L = 79 := by
    rcases op_c ho with ⟨h, _⟩ | ⟨h, _⟩ | ⟨h, _⟩ | ⟨h, _⟩ <;> omega
  have hk4 : kL L ≤ 4 := by
    rcases hL with rfl | rfl | rfl | rfl <;> decide
  have h3 : ¬ σe.1 3 = 0 := by
    rw [hE.2.1]
    rcases hL with rfl | rfl | rfl | rfl <;> decide
  have vn : ∀ o : Option Nat, (∀ v, o = some v → kI o = nI v) ∧ (o = none → kI o < 0) := fun o => by
    cases o with
    | none => exact ⟨fun _ e => (by cases e), fun _ => by decide⟩
    | some k => exact ⟨fun v e => by cases e; rfl, fun e => by cases e⟩
  have vn1 : ∀ o : Option Nat, (∀ v, o = some v → kI1 o = nI v) ∧ (o = none → kI1 o < 0) := fun o => by
    cases o with
    | none => exact ⟨fun _ e => (by cases e), fun _ => by decide⟩
    | some k => exact ⟨fun v e => by cases e; rfl, fun e => by cases e⟩
  unfold fX5_accepts
  rw [if_neg (by rw [hE.1]; decide), if_neg h3]
  by_cases h66 : L = 66
  · rw [if_pos (show σe.1 3 = 66 by rw [hE.2.1, h66]; rfl)]
    by_cases h0 : told.length = 0
    · rw [if_pos (show σe.1 2 = 0 by rw [hE.2.2.1, h0]; rfl), ixC ⟨c, h256⟩, bd_some, show vfL L told.length c = knd c from if_pos ⟨h66, h0⟩]
      exact ⟨_, rfl, vn1 _⟩
    · rw [if_neg (show ¬ σe.1 2 = 0 from fun e => by rw [hE.2.2.1] at e; exact h0 ((nI_eq (b := 0) (by omega) (by omega)).mp e)), vlC ⟨c, h256⟩, bd_some, show vfL L told.length c = vlu c from if_neg (fun h => h0 h.2)]
      exact ⟨_, rfl, vn _⟩
  · rw [if_neg (show ¬ σe.1 3 = 66 from fun e => by rw [hE.2.1] at e; exact h66 ((nI_eq (b := 66) (by omega) (by omega)).mp e)), vlC ⟨c, h256⟩, bd_some, show vfL L told.length c = vlu c from if_neg (fun h => h66 h.1)]
    exact ⟨_, rfl, vn _⟩
theorem sgP {L : Nat} {σ : ST} (hL : L = 66 ∨ L = 72 ∨ L = 76 ∨ L = 79) (h3 : σ.1 3 = nI L) : fX5_signsOfPart FU σ = some (nI (kL L)) := by
  unfold fX5_signsOfPart
  rw [h3]
  rcases hL with rfl | rfl | rfl | rfl <;> rfl
theorem acP_n {d : DD} {L : Nat} {told : List Nat} {σe σb σd : ST} {c : Nat} (hv : vD d) (hc : RC d σb σd) (ho : opB d L = true) (hE : RE σe L told) (hl : told.length < kL L) (hk : ∀ i v, told[i]? = some v → okL d L (told.take i) v = true) (h256 : c < 256) (hn : vfL L told.length c = none ∨ ∃ v, vfL L told.length c = some v ∧ okL d L told v = false) : fX5_accepts FU σe σb σd (nI c) = some (0, σe, σb, σd) := by
  have hk4 : kL L ≤ 4 := by
    rcases op_c ho with ⟨rfl, _⟩ | ⟨rfl, _⟩ | ⟨rfl, _⟩ | ⟨rfl, _⟩ <;> decide
  obtain ⟨r, e, r1, r2⟩ := ac_T (σb := σb) (σd := σd) ho hE hl h256
  have ha : fX5_allows FU σe σb σd r = some 0 := by
    rcases hn with hn | ⟨v, h1, h2⟩
    · exact al_n (r2 hn)
    · rw [r1 v h1, al_s hv hc ho hE hl hk (vf_lt h1), h2]
      rfl
  rw [e]
  unfold acT
  rw [hE.2.2.1, show fX10_isBelow FU (nI told.length) 4 = some 1 from bel_in (N := 4) (by omega) (by omega), bd_some, if1, ha, bd_some, if0]
theorem acP_y {d : DD} {L : Nat} {told : List Nat} {σe σb σd : ST} {c v : Nat} (hv : vD d) (hc : RC d σb σd) (ho : opB d L = true) (hE : RE σe L told) (hl : told.length < kL L) (hk : ∀ i v, told[i]? = some v → okL d L (told.take i) v = true) (h256 : c < 256) (h1 : vfL L told.length c = some v) (h2 : okL d L told v = true) : ∃ σe' σb' σd' : ST, fX5_accepts FU σe σb σd (nI c) = some (1, σe', σb', σd') ∧ (told.length + 1 = kL L → σe'.1 4 = 1 ∧ σe'.1 3 = 0 ∧ σe'.1 2 = 0 ∧ RC (addL d L (told ++ [v])) σb' σd') ∧ (¬ told.length + 1 = kL L → RE σe' L (told ++ [v]) ∧ RC d σb' σd') := by
  have hL : L = 66 ∨ L = 72 ∨ L = 76 ∨ L = 79 := by
    rcases op_c ho with ⟨h, _⟩ | ⟨h, _⟩ | ⟨h, _⟩ | ⟨h, _⟩ <;> omega
  have hk4 : kL L ≤ 4 := by
    rcases hL with rfl | rfl | rfl | rfl <;> decide
  obtain ⟨r, e, r1, r2⟩ := ac_T (σb := σb) (σd := σd) ho hE hl h256
  have ha := al_s hv hc ho hE hl hk (vf_lt h1)
  rw [h2] at ha
  have ha : fX5_allows FU σe σb σd (nI v) = some 1 := ha
  rw [e, r1 v h1]
  unfold acT
  rw [hE.2.2.1, show fX10_isBelow FU (nI told.length) 4 = some 1 from bel_in (N := 4) (by omega) (by omega), bd_some, if1, ha, bd_some, if1, if_neg (nI_in (show told.length < 4 by omega) (by omega)), nI_clamp (by omega), nm_go, nm_go]
  have e2 : (sA σe 1 told.length (nI v)).1 2 + 1 = nI (told.length + 1) := by
    rw [st_A1, hE.2.2.1, nI_1]
  rw [e2]
  have hE' : RE (sI (sA σe 1 told.length (nI v)) 2 (nI (told.length + 1))) L (told ++ [v]) := by
    refine ⟨hE.1, hE.2.1, ?_, fun i u hi => ?_⟩
    · rw [List.length_append]
      rfl
    · show (sA σe 1 told.length (nI v)).2.1 1 i = _
      rw [aA_at, if_pos rfl]
      by_cases c : i < told.length
      · rw [List.getElem?_append_left c] at hi
        rw [if_neg (by omega)]
        exact hE.2.2.2 i u hi
      · rw [List.getElem?_append_right (by omega)] at hi
        have hl : i - told.length < 1 := (List.getElem?_eq_some_iff.mp hi).1
        have ei : i = told.length := by omega
        subst ei
        rw [Nat.sub_self] at hi
        cases hi
        rw [if_pos rfl]
  rw [sgP hL hE'.2.1, bd_some, show (sI (sA σe 1 told.length (nI v)) 2 (nI (told.length + 1))).1 2 = nI (told.length + 1) from rfl]
  by_cases hf : told.length + 1 = kL L
  · obtain ⟨σb', σd', g1, g2⟩ := enP (told := told ++ [v]) hv hc ho hE'.2.1 hE'.2.2.2 (by rw [List.length_append]; exact hf) (sn_ok hk h2)
    rw [if_pos (by rw [hf]), g1, bd_some]
    exact ⟨_, _, _, rfl, fun _ => ⟨hE.1, rfl, rfl, g2⟩, fun h => absurd hf h⟩
  · rw [if_neg (fun e => hf ((nI_eq (by omega) (by omega)).mp e))]
    exact ⟨_, _, _, rfl, fun h => absurd h hf, fun _ => ⟨hE', hc⟩⟩
