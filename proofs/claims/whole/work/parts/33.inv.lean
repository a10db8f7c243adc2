/-! THE INVARIANT: what both sides hold -/
abbrev B3 : Type := Nat × Nat × Nat
abbrev H4 : Type := Nat × Nat × Nat × Nat
abbrev A5 : Type := Nat × Nat × B3
def okB (q : B3) : Prop := q.1 < 6 ∧ q.2.1 < 10 ∧ q.2.2 < 6
def vB (bl : List B3) : Prop := bl.length ≤ 8 ∧ ∀ q ∈ bl, okB q
/-- bodies in the class -/
def RB (bl : List B3) (σ : ST) : Prop := σ.1 3 = nI bl.length ∧ ∀ (i : Nat) (q : B3), bl[i]? = some q → σ.2.1 0 i = nI q.1 ∧ σ.2.1 1 i = nI q.2.1 ∧ σ.2.1 2 i = nI q.2.2
/-- bodies in the reference -/
def RB3 (bl : List B3) (n : Int32) (f : Nat → Int32) : Prop := n = nI bl.length ∧ ∀ (i : Nat) (q : B3), bl[i]? = some q → f (3 * i) = nI q.1 ∧ f (3 * i + 1) = nI q.2.1 ∧ f (3 * i + 2) = nI q.2.2
def okH (q : H4) : Prop := q.1 ≤ q.2.1 ∧ q.2.1 < 10 ∧ q.2.2.1 ≤ q.2.2.2 ∧ q.2.2.2 < 6
def okC (q : H4) : Prop := q.1 ≤ q.2.1 ∧ q.2.1 < 10 ∧ q.2.2.1 ≤ q.2.2.2 ∧ q.2.2.2 < 16
def at4 (q : H4) (f : Nat → Int32) (b : Nat) : Prop := f b = nI q.1 ∧ f (b + 1) = nI q.2.1 ∧ f (b + 2) = nI q.2.2.1 ∧ f (b + 3) = nI q.2.2.2
def mskN (su : Nat → Option Nat) : Nat → Nat
  | 0 => 0
  | n + 1 => mskN su n + if (su n).isSome then 2 ^ n else 0
def vG (hl cl : List H4) (su : Nat → Option Nat) : Prop := hl.length ≤ 3 ∧ (∀ q ∈ hl, okH q) ∧ cl.length ≤ 4 ∧ (∀ q ∈ cl, okC q) ∧ ∀ y m : Nat, su y = some m → m < 16
def RG (hl cl : List H4) (su : Nat → Option Nat) (σ : ST) : Prop :=
  (σ.1 3 = nI hl.length ∧ ∀ (i : Nat) (q : H4), hl[i]? = some q → at4 q (σ.2.1 (10 + i)) 0) ∧ (σ.1 4 = nI cl.length ∧ ∀ (i : Nat) (q : H4), cl[i]? = some q → at4 q (σ.2.1 (20 + i)) 0) ∧ σ.1 5 = nI (mskN su 6) ∧ ∀ y m : Nat, y < 6 → su y = some m → σ.2.1 2 y = nI m
def RG3 (hl cl : List H4) (su : Nat → Option Nat) (nh nc cf : Int32) (fh fc fs : Nat → Int32) : Prop :=
  (nh = nI hl.length ∧ ∀ (i : Nat) (q : H4), hl[i]? = some q → at4 q fh (4 * i)) ∧ (nc = nI cl.length ∧ ∀ (i : Nat) (q : H4), cl[i]? = some q → at4 q fc (4 * i)) ∧ cf = nI (mskN su 6) ∧ ∀ y : Nat, y < 6 → fs y = nI ((su y).getD 0)
def vS (sl : List (Nat × Nat)) : Prop := sl.length ≤ 6 ∧ ∀ q ∈ sl, q.1 < 16 ∧ q.2 < 1024
def RS (sl : List (Nat × Nat)) (n : Int32) (ft fc : Nat → Int32) : Prop := n = nI sl.length ∧ ∀ (i : Nat) (q : Nat × Nat), sl[i]? = some q → ft i = nI q.1 ∧ fc i = nI q.2
def PT (σ : ST) (n : Int32) (f : Nat → Int32) : Prop := ∃ (len : Nat) (tx : Nat → Nat), len ≤ 92 ∧ σ.1 1 = nI len ∧ n = nI len ∧ ∀ i, i < len → tx i < 256 ∧ (σ.2.1 0 i) &&& 255 = nI (tx i) ∧ f i = nI (tx i)
/-- the acts: sort 0 put, 1 move, 2 take; whose; how it stood -/
def ok1 (a : A5) (bl : List B3) : Prop := okB a.2.2 ∧ ((a.1 = 0 ∧ a.2.1 < bl.length) ∨ (a.1 = 1 ∧ a.2.1 < bl.length) ∨ (a.1 = 2 ∧ a.2.1 ≤ bl.length ∧ bl.length < 8))
def un1 (a : A5) (bl : List B3) : List B3 := if a.1 = 0 then bl.eraseIdx a.2.1 else if a.1 = 1 then (bl.eraseIdx a.2.1).insertIdx a.2.1 a.2.2 else bl.insertIdx a.2.1 a.2.2
def und : List B3 → List A5 → List (List B3) → Prop
  | _, [], [] => True
  | bl, a :: al, h :: hs => ok1 a bl ∧ un1 a bl = h ∧ vB h ∧ und h al hs
  | _, _, _ => False
def atA (a : A5) (σ : ST) (p : Nat) : Prop := σ.2.1 0 p = nI a.1 ∧ σ.2.1 1 p = nI a.2.1 ∧ σ.2.1 2 p = nI a.2.2.1 ∧ σ.2.1 3 p = nI a.2.2.2.1 ∧ σ.2.1 4 p = nI a.2.2.2.2
def RAc (al : List A5) (σ : ST) : Prop := ∃ old : Nat, old < 16 ∧ al.length ≤ 16 ∧ σ.1 5 = nI old ∧ σ.1 6 = nI al.length ∧ ∀ (j : Nat) (a : A5), al[j]? = some a → atA a σ ((old + al.length + 15 - j) % 16)
def RAm (hs : List (List B3)) (na nx : Int32) (row : Nat → Int32) : Prop := ∃ k : Nat, k < 16 ∧ hs.length ≤ 16 ∧ na = nI hs.length ∧ nx = nI k ∧ ∀ (j : Nat) (h : List B3), hs[j]? = some h → h.length ≤ 8 ∧ RB3 h (row (25 * ((k + 15 - j) % 16) + 24)) (fun i => row (25 * ((k + 15 - j) % 16) + i))
def PA (bl : List B3) (σ : ST) (na nx : Int32) (row : Nat → Int32) : Prop := ∃ (al : List A5) (hs : List (List B3)), und bl al hs ∧ RAc al σ ∧ RAm hs na nx row
theorem und_len : ∀ (bl : List B3) (al : List A5) (hs : List (List B3)), und bl al hs → al.length = hs.length
  | _, [], [], _ => rfl
  | _, _ :: al, h :: hs, q => by
    have := und_len h al hs q.2.2.2
    simp [this]
  | _, [], _ :: _, q => q.elim
  | _, _ :: _, [], q => q.elim
def PK (σl σb σs : ST) (kept : Int32) (body : Nat → Int32) (ns : Int32) (ft fc : Nat → Int32) : Prop :=
  (σl.1 2 = 0 ∧ kept = 0) ∨ (σl.1 2 = 1 ∧ kept = 1 ∧ ∃ (bl : List B3) (sl : List (Nat × Nat)), vB bl ∧ RB bl σb ∧ RB3 bl (body 24) body ∧ vS sl ∧ RS sl (σs.1 2) (σs.2.1 0) (σs.2.1 1) ∧ RS sl ns ft fc)
def PB (bl : List B3) (S : SS) : Prop := vB bl ∧ RB bl (S 7) ∧ RB3 bl ((S 20).1 11) ((S 20).2.1 7) ∧ PA bl (S 9) ((S 20).1 19) ((S 20).1 20) ((S 20).2.1 21)
def PG (S : SS) : Prop := ∃ (hl cl : List H4) (su : Nat → Option Nat), vG hl cl su ∧ RG hl cl su (S 8) ∧ RG3 hl cl su ((S 20).1 12) ((S 20).1 13) ((S 20).1 14) ((S 20).2.1 8) ((S 20).2.1 9) ((S 20).2.1 10)
def PS (S : SS) : Prop := ∃ sl : List (Nat × Nat), vS sl ∧ RS sl ((S 11).1 2) ((S 11).2.1 0) ((S 11).2.1 1) ∧ RS sl ((S 20).1 23) ((S 20).2.1 24) ((S 20).2.1 25)
def PK0 (S : SS) : Prop := PK (S 14) (S 15) (S 16) ((S 20).2.1 32 0) (fun i => (S 20).2.1 33 i) ((S 20).2.1 36 0) (fun i => (S 20).2.1 34 i) (fun i => (S 20).2.1 35 i)
def PK1 (S : SS) : Prop := PK (S 17) (S 18) (S 19) ((S 20).2.1 32 1) (fun i => (S 20).2.1 33 (25 + i)) ((S 20).2.1 36 1) (fun i => (S 20).2.1 34 (6 + i)) (fun i => (S 20).2.1 35 (6 + i))
def Inv (S : SS) : Prop := PT (S 1) ((S 20).1 16) ((S 20).2.1 15) ∧ (∃ bl : List B3, PB bl S) ∧ PG S ∧ PS S ∧ PK0 S ∧ PK1 S
theorem inv_0 : Inv (fun _ => z0) := by
  refine ⟨⟨0, fun _ => 0, by omega, rfl, rfl, fun i h => by omega⟩, ⟨[], ⟨by simp, fun q h => by simp at h⟩, ⟨rfl, fun i q h => by simp at h⟩, ⟨rfl, fun i q h => by simp at h⟩, [], [], trivial, ⟨0, by omega, by simp, rfl, rfl, fun j a h => by simp at h⟩, 0, by omega, by simp, rfl, rfl, fun j a h => by simp at h⟩, ⟨[], [], fun _ => none, ⟨by simp, fun q h => by simp at h, by simp, fun q h => by simp at h, fun y m h => by simp at h⟩, ⟨⟨rfl, fun i q h => by simp at h⟩, ⟨rfl, fun i q h => by simp at h⟩, rfl, fun y m _ h => by simp at h⟩, ⟨rfl, fun i q h => by simp at h⟩, ⟨rfl, fun i q h => by simp at h⟩, rfl, fun y _ => rfl⟩, ⟨[], ⟨by simp, fun q h => by simp at h⟩, ⟨rfl, fun i q h => by simp at h⟩, rfl, fun i q h => by simp at h⟩, Or.inl ⟨rfl, rfl⟩, Or.inl ⟨rfl, rfl⟩⟩
/-! plain calls -/
theorem st_wipe : St_wipe Inv := by
  intro S hI
  obtain ⟨⟨len, tx, h1, h2, h3, h4⟩, hB, hG, hS, hK0, hK1⟩ := hI
  refine ⟨_, _, rfl, rfl, h2.trans h3.symm, ⟨0, tx, by omega, rfl, rfl, fun i h => by omega⟩, hB, hG, hS, hK0, hK1⟩
theorem st_unsee : St_unsee Inv := by
  intro S hI
  obtain ⟨hT, hB, hG, ⟨sl, h1, h2, h3⟩, hK0, hK1⟩ := hI
  refine ⟨_, _, rfl, rfl, h2.1.trans h3.1.symm, hT, hB, hG, ⟨[], ⟨by simp, fun q h => by simp at h⟩, ⟨rfl, fun i q h => by simp at h⟩, rfl, fun i q h => by simp at h⟩, hK0, hK1⟩
