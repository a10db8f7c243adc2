/-! the text: what both read of it -/
abbrev SP : Type := Sum Nat (List Nat × Nat)
abbrev DD : Type := List B3 × List H4 × List H4 × (Nat → Option Nat)
def vlu (c : Nat) : Option Nat := if 48 ≤ c ∧ c ≤ 57 then some (c - 48) else if 97 ≤ c ∧ c ≤ 102 then some (c - 87) else none
def knd (c : Nat) : Option Nat := if c = 109 then some 0 else if c = 99 then some 1 else if c = 107 then some 2 else if c = 115 then some 3 else if c = 97 then some 4 else if c = 116 then some 5 else none
def vfL (L i c : Nat) : Option Nat := if L = 66 ∧ i = 0 then knd c else vlu c
def stp (len : Nat) (tx : Nat → Nat) (vf : Nat → Nat → Option Nat) (ok : List Nat → Nat → Bool) : SP → SP
  | .inl f => .inl f
  | .inr (told, p) => if len ≤ p then .inl p else match vf told.length (tx p) with
    | none => .inl p
    | some v => if ok told v then .inr (told ++ [v], p + 1) else .inl p
def itp (len : Nat) (tx : Nat → Nat) (vf : Nat → Nat → Option Nat) (ok : List Nat → Nat → Bool) : Nat → SP → SP
  | 0, s => s
  | k + 1, s => itp len tx vf ok k (stp len tx vf ok s)
def colN (x : Nat) : List B3 → Nat
  | [] => 0
  | q :: l => (if q.2.1 = x then 1 else 0) + colN x l
def rngB (lim : Nat) (told : List Nat) (v : Nat) : Bool := if told.length = 0 then decide (v < 10) else if told.length = 1 then decide (told.getD 0 0 ≤ v) && decide (v < 10) else if told.length = 2 then decide (v < lim) else decide (told.getD 2 0 ≤ v) && decide (v < lim)
def bodB (bl : List B3) (told : List Nat) (v : Nat) : Bool := if told.length = 0 then decide (v < 6) else if told.length = 1 then decide (v < 10) && decide (colN v bl < 6) else decide (v < 6) && !tkB bl (told.getD 1 0) v
def cliB (su : Nat → Option Nat) (told : List Nat) (v : Nat) : Bool := if told.length = 0 then decide (v < 6) && (su v).isNone else decide (v < 16)
def okL (d : DD) (L : Nat) : List Nat → Nat → Bool := if L = 66 then bodB d.1 else if L = 76 then cliB d.2.2.2 else if L = 72 then rngB 6 else rngB 16
def kL (L : Nat) : Nat := if L = 66 then 3 else if L = 76 then 2 else 4
def addL (d : DD) (L : Nat) (told : List Nat) : DD := if L = 66 then (d.1 ++ [(told.getD 0 0, told.getD 1 0, told.getD 2 0)], d.2) else if L = 76 then (d.1, d.2.1, d.2.2.1, fun y => if y = told.getD 0 0 then some (told.getD 1 0) else d.2.2.2 y) else if L = 72 then (d.1, d.2.1 ++ [(told.getD 0 0, told.getD 1 0, told.getD 2 0, told.getD 3 0)], d.2.2) else (d.1, d.2.1, d.2.2.1 ++ [(told.getD 0 0, told.getD 1 0, told.getD 2 0, told.getD 3 0)], d.2.2.2)
def opB (d : DD) (c : Nat) : Bool := if c = 66 then decide (d.1.length < 8) else if c = 72 then decide (d.2.1.length < 3) else if c = 76 then !decide (mskN d.2.2.2 6 = 63) else if c = 79 then decide (d.2.2.1.length < 4) else false
def partO (len : Nat) (tx : Nat → Nat) (d : DD) (p : Nat) : Sum Nat (DD × Nat) := if opB d (tx p) then (match itp len tx (vfL (tx p)) (okL d (tx p)) (kL (tx p)) (.inr ([], p + 1)) with
    | .inl f => .inl f
    | .inr (told, p') => .inr (addL d (tx p) told, p')) else .inl p
/-- steps -/
theorem itp_l {len : Nat} {tx : Nat → Nat} {vf : Nat → Nat → Option Nat} {ok : List Nat → Nat → Bool} (f : Nat) : ∀ k, itp len tx vf ok k (.inl f) = .inl f
  | 0 => rfl
  | k + 1 => itp_l f k
theorem stp_r {len : Nat} {tx : Nat → Nat} {vf : Nat → Nat → Option Nat} {ok : List Nat → Nat → Bool} {s : SP} {told : List Nat} {p : Nat} (h : stp len tx vf ok s = .inr (told, p)) : ∃ (t0 : List Nat) (v p0 : Nat), s = .inr (t0, p0) ∧ p0 < len ∧ p = p0 + 1 ∧ vf t0.length (tx p0) = some v ∧ ok t0 v = true ∧ told = t0 ++ [v] := by
  cases s with
  | inl f =>
    have h : (Sum.inl f : SP) = .inr (told, p) := h
    cases h
  | inr q =>
    obtain ⟨t0, p0⟩ := q
    have h : (if len ≤ p0 then (.inl p0 : SP) else match vf t0.length (tx p0) with
      | none => .inl p0
      | some v => if ok t0 v then .inr (t0 ++ [v], p0 + 1) else .inl p0) = .inr (told, p) := h
    by_cases h1 : len ≤ p0
    · rw [if_pos h1] at h
      cases h
    · rw [if_neg h1] at h
      cases hv : vf t0.length (tx p0) with
      | none =>
        rw [hv] at h
        cases h
      | some v =>
        rw [hv] at h
        have h : (if ok t0 v then (.inr (t0 ++ [v], p0 + 1) : SP) else .inl p0) = .inr (told, p) := h
        by_cases h2 : ok t0 v = true
        · rw [if_pos h2] at h
          cases h
          exact ⟨t0, v, p0, rfl, by omega, rfl, hv, h2, rfl⟩
        · rw [if_neg h2] at h
          cases h
theorem stp_y {len : Nat} {tx : Nat → Nat} {vf : Nat → Nat → Option Nat} {ok : List Nat → Nat → Bool} {told : List Nat} {p v : Nat} (h1 : p < len) (h2 : vf told.length (tx p) = some v) (h3 : ok told v = true) : stp len tx vf ok (.inr (told, p)) = .inr (told ++ [v], p + 1) := by
  show (if len ≤ p then (.inl p : SP) else match vf told.length (tx p) with
      | none => .inl p
      | some v => if ok told v then .inr (told ++ [v], p + 1) else .inl p) = _
  rw [if_neg (by omega), h2]
  show (if ok told v then (.inr (told ++ [v], p + 1) : SP) else .inl p) = _
  rw [if_pos h3]
theorem stp_e {len : Nat} {tx : Nat → Nat} {vf : Nat → Nat → Option Nat} {ok : List Nat → Nat → Bool} {told : List Nat} {p : Nat} (h1 : len ≤ p) : stp len tx vf ok (.inr (told, p)) = .inl p := by
  show (if len ≤ p then (.inl p : SP) else _) = _
  rw [if_pos h1]
theorem stp_n {len : Nat} {tx : Nat → Nat} {vf : Nat → Nat → Option Nat} {ok : List Nat → Nat → Bool} {told : List Nat} {p : Nat} (h : vf told.length (tx p) = none ∨ ∃ v, vf told.length (tx p) = some v ∧ ok told v = false) : stp len tx vf ok (.inr (told, p)) = .inl p := by
  show (if len ≤ p then (.inl p : SP) else match vf told.length (tx p) with
      | none => .inl p
      | some v => if ok told v then .inr (told ++ [v], p + 1) else .inl p) = _
  by_cases h1 : len ≤ p
  · rw [if_pos h1]
  · rw [if_neg h1]
    rcases h with h | ⟨v, h2, h3⟩
    · rw [h]
    · rw [h2]
      show (if ok told v then (.inr (told ++ [v], p + 1) : SP) else .inl p) = _
      rw [if_neg (by rw [h3]; decide)]
/-- bits of an allowance -/
theorem tst (m : Int32) {v : Nat} (hv : v < 31) : ((m >>> (nI v &&& 31)) &&& 1) = 0 ↔ m.toBitVec.getLsbD v = false := by
  have h1 : ∀ x : Int32, x &&& 1 = 0 ↔ x.toBitVec.getLsbD 0 = false := fun x => by
    rw [iand_bv]
    show x.toBitVec &&& 1#32 = 0#32 ↔ _
    constructor
    · intro h
      have := congrArg (fun z => z.getLsbD 0) h
      simpa using this
    · intro h
      apply BitVec.eq_of_getLsbD_eq
      intro i hi
      rw [BitVec.getLsbD_and, BitVec.getLsbD_zero]
      by_cases h0 : i = 0
      · rw [h0, h]
        rfl
      · have : (1#32).getLsbD i = false := by
          rw [BitVec.getLsbD_one]
          simp [h0]
        rw [this, Bool.and_false]
  have e : (m >>> (nI v &&& 31)).toBitVec = m.toBitVec.sshiftRight v := by
    show m.toBitVec.sshiftRight ((nI v &&& 31).toBitVec.smod 32).toNat = _
    rw [sh_l ⟨v, by omega⟩]
  rw [h1, e, BitVec.getLsbD_sshiftRight, if_pos (by omega), Nat.add_zero]
  simp
/-- where the reference stands -/
def TX (len : Nat) (tx : Nat → Nat) (σ : ST) : Prop := len ≤ 92 ∧ σ.1 16 = nI len ∧ ∀ i, i < len → tx i < 256 ∧ σ.2.1 15 i = nI (tx i)
def MR (len : Nat) (s : SP) (σ : ST) : Prop := (∀ f, s = .inl f → f ≤ len ∧ σ.1 18 = nI f) ∧ ∀ told p, s = .inr (told, p) → p ≤ len ∧ σ.1 18 = -9 ∧ σ.1 17 = nI p
theorem n9 {f : Nat} (h : f ≤ 92) : ¬ nI f = -9 := fun e => by
  rw [fa_eq, nI_toInt (by omega)] at e
  have e9 : (-9 : Int32).toInt = -9 := by decide
  omega
theorem MR_l {len f : Nat} {σ : ST} (h1 : f ≤ len) (h2 : σ.1 18 = nI f) : MR len (.inl f) σ := ⟨fun f' e => by cases e; exact ⟨h1, h2⟩, fun _ _ e => by cases e⟩
theorem MR_r {len p : Nat} {told : List Nat} {σ : ST} (h1 : p ≤ len) (h2 : σ.1 18 = -9) (h3 : σ.1 17 = nI p) : MR len (.inr (told, p)) σ := ⟨fun _ e => (by cases e), fun _ _ e => by cases e; exact ⟨h1, h2, h3⟩⟩
def fr2 (σ σ' : ST) : Prop := (∀ k, k ≠ 17 → k ≠ 18 → σ'.1 k = σ.1 k) ∧ σ'.2 = σ.2
theorem fr2_17 (σ : ST) (a : Int32) : fr2 σ (sI σ 17 a) := ⟨fun k h _ => by rw [st_I1, if_neg h], rfl⟩
theorem fr2_18 (σ : ST) (a : Int32) : fr2 σ (sI σ 18 a) := ⟨fun k _ h => by rw [st_I1, if_neg h], rfl⟩
theorem fr2_t {a b c : ST} (h1 : fr2 a b) (h2 : fr2 b c) : fr2 a c := ⟨fun k x y => (h2.1 k x y).trans (h1.1 k x y), h2.2.trans h1.2⟩
theorem fail_a {F p : Nat} {σ : ST} (h18 : σ.1 18 = -9) (h17 : σ.1 17 = nI p) : fX11_fail F σ = some (sI σ 18 (nI p)) := by
  unfold fX11_fail
  rw [if_pos h18, h17]
  rfl
theorem fail_d {F f : Nat} {σ : ST} (hf : f ≤ 92) (h18 : σ.1 18 = nI f) : fX11_fail F σ = some (sI σ 18 (nI f)) := by
  unfold fX11_fail
  rw [if_neg (by rw [h18]; exact n9 hf), h18]
  rfl
theorem vlu_lt {c v : Nat} (h : vlu c = some v) : v < 16 := by
  unfold vlu at h
  by_cases h1 : 48 ≤ c ∧ c ≤ 57
  · rw [if_pos h1] at h
    cases h
    omega
  · rw [if_neg h1] at h
    by_cases h2 : 97 ≤ c ∧ c ≤ 102
    · rw [if_pos h2] at h
      cases h
      omega
    · rw [if_neg h2] at h
      cases h
theorem sgM {len : Nat} {tx : Nat → Nat} {vf : Nat → Nat → Option Nat} {ok : List Nat → Nat → Bool} {s : SP} {σ : ST} {m : Int32} (hX : TX len tx σ) (hM : MR len s σ) (hf : ∀ told p, s = .inr (told, p) → ∀ c, vf told.length c = vlu c) (hm : ∀ told p, s = .inr (told, p) → ∀ v, v < 16 → m.toBitVec.getLsbD v = ok told v) : ∃ (v : Int32) (σ' : ST), fX11_sign FU σ m = some (v, σ') ∧ MR len (stp len tx vf ok s) σ' ∧ fr2 σ σ' ∧ (∀ t0 w p, stp len tx vf ok s = .inr (t0 ++ [w], p) → v = nI w) ∧ (∀ f, stp len tx vf ok s = .inl f → v = 0) := by
  obtain ⟨h92, h16, hT⟩ := hX
  have z1 : fX11_in FU (0 : Int32).toInt64 48 57 = some 0 := by decide +kernel
  have z2 : fX11_in FU (0 : Int32).toInt64 97 102 = some 0 := by decide +kernel
  unfold fX11_sign
  cases s with
  | inl f =>
    obtain ⟨h1, h2⟩ := hM.1 f rfl
    rw [if_neg (by rw [h2]; exact n9 (by omega)), z1, z2, bd_some, bd_some, if0, if0, fail_d (by omega) h2, bd_some]
    exact ⟨_, _, rfl, MR_l h1 rfl, fr2_18 _ _, fun _ _ _ e => (by cases e), fun _ _ => rfl⟩
  | inr q =>
    obtain ⟨told, p⟩ := q
    obtain ⟨h1, h18, h17⟩ := hM.2 told p rfl
    have hf := hf told p rfl
    have hm := hm told p rfl
    have hfail : stp len tx vf ok (.inr (told, p)) = .inl p → ∃ (v : Int32) (σ' : ST), some ((0 : Int32), sI σ 18 (nI p)) = some (v, σ') ∧ MR len (stp len tx vf ok (.inr (told, p))) σ' ∧ fr2 σ σ' ∧ (∀ t0 w p', stp len tx vf ok (.inr (told, p)) = .inr (t0 ++ [w], p') → v = nI w) ∧ (∀ f, stp len tx vf ok (.inr (told, p)) = .inl f → v = 0) := fun e => by
      rw [e]
      exact ⟨_, _, rfl, MR_l h1 rfl, fr2_18 _ _, fun _ _ _ e => (by cases e), fun _ _ => rfl⟩
    rw [if_pos h18, h16, h17]
    by_cases hp : len ≤ p
    · rw [if_pos (nI_le hp (by omega)), z1, z2, bd_some, bd_some, if0, if0, fail_a h18 h17, bd_some]
      exact hfail (stp_e hp)
    · obtain ⟨hc, hcx⟩ := hT p (by omega)
      rw [if_neg (nI_ge (by omega) (by omega)), if_neg (nI_in (show p < 92 by omega) (by omega)), nI_clamp (by omega), hcx, show (48 : Int64) = (nI 48).toInt64 from rfl, show (57 : Int64) = (nI 57).toInt64 from rfl, show (97 : Int64) = (nI 97).toInt64 from rfl, show (102 : Int64) = (nI 102).toInt64 from rfl, in_n (by omega) (by omega) (by omega), in_n (by omega) (by omega) (by omega), bd_some, bd_some]
      have key : ∀ (k v : Nat), vf told.length (tx p) = some v → v < 16 → nI (tx p) - nI k = nI v → ∃ (r : Int32) (σ' : ST), (if (nI (tx p) - nI k) < 0 then
            (fX11_fail FU σ).bind fun r44 =>
            some ((0 : Int32), r44)
          else
            if ((m >>> ((nI (tx p) - nI k) &&& 31)) &&& (1 : Int32)) = 0 then
              (fX11_fail FU σ).bind fun r49 =>
              some ((0 : Int32), r49)
            else
              nm (sI σ 17 (nI p + (1 : Int32))) fun (s47 : ST) =>
              some (nI (tx p) - nI k, s47)) = some (r, σ') ∧ MR len (stp len tx vf ok (.inr (told, p))) σ' ∧ fr2 σ σ' ∧ (∀ t0 w p', stp len tx vf ok (.inr (told, p)) = .inr (t0 ++ [w], p') → r = nI w) ∧ (∀ f, stp len tx vf ok (.inr (told, p)) = .inl f → r = 0) := by
        intro k v hv hv16 hk
        rw [hk, if_neg (nI_pos (by omega))]
        have ht := tst m (show v < 31 by omega)
        rw [hm v hv16] at ht
        cases ho : ok told v with
        | false =>
          rw [if_pos (ht.mpr ho), fail_a h18 h17, bd_some]
          exact hfail (stp_n (Or.inr ⟨v, hv, ho⟩))
        | true =>
          rw [if_neg (fun e => by rw [ht.mp e] at ho; cases ho), nm_go, nI_1]
          have es := stp_y (len := len) (tx := tx) (vf := vf) (ok := ok) (told := told) (p := p) (by omega) hv ho
          refine ⟨_, _, rfl, ?_, fr2_17 _ _, fun t0 w p' e => ?_, fun f e => ?_⟩
          · rw [es]
            exact MR_r (by omega) h18 rfl
          · rw [es] at e
            have e1 : told ++ [v] = t0 ++ [w] := by
              injection e with e
              injection e
            have e2 := List.append_inj' e1 rfl
            have e3 : v = w := by
              have := e2.2
              injection this
            rw [e3]
          · rw [es] at e
            cases e
      have hvl : vf told.length (tx p) = vlu (tx p) := hf (tx p)
      unfold vlu at hvl
      by_cases h1c : 48 ≤ tx p ∧ tx p ≤ 57
      · rw [if_pos h1c] at hvl
        rw [if_pos h1c, if1]
        exact key 48 (tx p - 48) hvl (by omega) (pk_sub h1c.1)
      · rw [if_neg h1c] at hvl
        rw [if_neg h1c, if0]
        by_cases h2c : 97 ≤ tx p ∧ tx p ≤ 102
        · rw [if_pos h2c] at hvl
          rw [if_pos h2c, if1]
          exact key 87 (tx p - 87) hvl (by omega) (pk_sub (by omega))
        · rw [if_neg h2c] at hvl
          rw [if_neg h2c, if0, fail_a h18 h17, bd_some]
          exact hfail (stp_n (Or.inl hvl))
