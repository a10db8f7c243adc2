/-! rows of people as codes: what they make dark -/
def SL {α : Type} (op : α → α → α) (z : α) : Prop := (∀ a b c, op (op a b) c = op a (op b c)) ∧ (∀ a b, op a b = op b a) ∧ (∀ a, op a a = a) ∧ ∀ a, op z a = a
theorem SL.as {α : Type} {op : α → α → α} {z : α} (h : SL op z) : ∀ a b c, op (op a b) c = op a (op b c) := h.1
theorem SL.co {α : Type} {op : α → α → α} {z : α} (h : SL op z) : ∀ a b, op a b = op b a := h.2.1
theorem SL.id {α : Type} {op : α → α → α} {z : α} (h : SL op z) : ∀ a, op a a = a := h.2.2.1
theorem SL.ze {α : Type} {op : α → α → α} {z : α} (h : SL op z) : ∀ a, op z a = a := h.2.2.2
theorem sl32 : SL (α := Int32) (· ||| ·) 0 := by
  refine ⟨fun a b c => ?_, fun a b => ?_, fun a => ?_, fun a => ?_⟩
  · apply Int32.toBitVec_inj.1
    exact BitVec.or_assoc _ _ _
  · apply Int32.toBitVec_inj.1
    exact BitVec.or_comm _ _
  · apply Int32.toBitVec_inj.1
    exact BitVec.or_self
  · apply Int32.toBitVec_inj.1
    exact BitVec.zero_or
theorem sl64 : SL (α := Int64) (· ||| ·) 0 := by
  refine ⟨fun a b c => ?_, fun a b => ?_, fun a => ?_, fun a => ?_⟩
  · apply Int64.toBitVec_inj.1
    exact BitVec.or_assoc _ _ _
  · apply Int64.toBitVec_inj.1
    exact BitVec.or_comm _ _
  · apply Int64.toBitVec_inj.1
    exact BitVec.or_self
  · apply Int64.toBitVec_inj.1
    exact BitVec.zero_or
theorem sl_tr {α : Type} {op : α → α → α} {z : α} (h : SL op z) {a b c : α} (h1 : op a b = b) (h2 : op b c = c) : op a c = c := by
  rw [← h2, ← h.as, h1]
theorem sl_an {α : Type} {op : α → α → α} {z : α} (h : SL op z) {a b : α} (h1 : op a b = b) (h2 : op b a = a) : a = b := by
  rw [← h1, h.co, h2]
theorem sl_or {α : Type} {op : α → α → α} {z : α} (h : SL op z) {a b c : α} (h1 : op a c = c) (h2 : op b c = c) : op (op a b) c = c := by
  rw [h.as, h2, h1]
theorem sl_l {α : Type} {op : α → α → α} {z : α} (h : SL op z) (a b : α) : op a (op a b) = op a b := by rw [← h.as, h.id]
theorem sl_r {α : Type} {op : α → α → α} {z : α} (h : SL op z) (a b : α) : op b (op a b) = op a b := by rw [h.co a b, sl_l h]
theorem sl_2 {α : Type} {op : α → α → α} {z : α} (h : SL op z) {a b c d : α} (h1 : op a c = c) (h2 : op b d = d) : op (op a b) (op c d) = op c d :=
  sl_or h (sl_tr h h1 (sl_l h c d)) (sl_tr h h2 (sl_r h c d))
/-- all digits' values together -/
def dO {α : Type} (op : α → α → α) (z : α) (val : Nat → Nat → α) : Nat → Nat → Nat → α
  | _, 0, _ => z
  | x, r + 1, c => op (val x (c % 3)) (dO op z val (x + 1) r (c / 3))
def oO {α : Type} (op : α → α → α) (z : α) (B : Nat → α) : Nat → Nat → α
  | _, 0 => z
  | x, r + 1 => op (B x) (oO op z B (x + 1) r)
def tC (tl : Nat → Nat) : Nat → Nat → Nat
  | _, 0 => 0
  | x, r + 1 => tl x + 3 * tC tl (x + 1) r
def dig : Nat → Nat → Nat
  | 0, c => c % 3
  | i + 1, c => dig i (c / 3)
theorem dig_lt : ∀ (i c : Nat), dig i c < 3
  | 0, c => Nat.mod_lt _ (by omega)
  | i + 1, c => dig_lt i (c / 3)
theorem dO_le {α : Type} {op : α → α → α} {z : α} (h : SL op z) {val : Nat → Nat → α} {B : Nat → α} : ∀ (r x c : Nat), (∀ i, i < r → op (val (x + i) (dig i c)) (B (x + i)) = B (x + i)) → op (dO op z val x r c) (oO op z B x r) = oO op z B x r
  | 0, _, _, _ => h.id _
  | r + 1, x, c, hb => by
    rw [dO, oO]
    refine sl_2 h (hb 0 (by omega)) (dO_le h r (x + 1) (c / 3) (fun i hi => ?_))
    have := hb (i + 1) (by omega)
    rw [show x + (i + 1) = x + 1 + i by omega] at this
    exact this
theorem dO_at {α : Type} {op : α → α → α} {z : α} (h : SL op z) {val : Nat → Nat → α} : ∀ (r x c i : Nat), i < r → op (val (x + i) (dig i c)) (dO op z val x r c) = dO op z val x r c
  | 0, _, _, _, hi => by omega
  | r + 1, x, c, 0, _ => by
    rw [dO]
    exact sl_l h _ _
  | r + 1, x, c, i + 1, hi => by
    rw [dO]
    have := dO_at h (val := val) r (x + 1) (c / 3) i (by omega)
    rw [show x + (i + 1) = x + 1 + i by omega]
    exact sl_tr h this (sl_r h _ _)
theorem oO_le {α : Type} {op : α → α → α} {z : α} (h : SL op z) {B : Nat → α} {w : α} : ∀ (r x : Nat), (∀ i, i < r → op (B (x + i)) w = w) → op (oO op z B x r) w = w
  | 0, _, _ => h.ze _
  | r + 1, x, hb => by
    rw [oO]
    refine sl_or h (hb 0 (by omega)) (oO_le h r (x + 1) (fun i hi => ?_))
    have := hb (i + 1) (by omega)
    rw [show x + (i + 1) = x + 1 + i by omega] at this
    exact this
theorem oO_2 {α : Type} {op : α → α → α} {z : α} (h : SL op z) {A B : Nat → α} : ∀ (r x : Nat), (∀ i, i < r → op (A (x + i)) (B (x + i)) = B (x + i)) → op (oO op z A x r) (oO op z B x r) = oO op z B x r
  | 0, _, _ => h.id _
  | r + 1, x, hb => by
    rw [oO, oO]
    refine sl_2 h (hb 0 (by omega)) (oO_2 h r (x + 1) (fun i hi => ?_))
    have := hb (i + 1) (by omega)
    rw [show x + (i + 1) = x + 1 + i by omega] at this
    exact this
theorem dO_tC {α : Type} {op : α → α → α} {z : α} {val : Nat → Nat → α} {tl : Nat → Nat} (ht : ∀ x, tl x < 3) : ∀ (r x : Nat), dO op z val x r (tC tl x r) = oO op z (fun y => val y (tl y)) x r
  | 0, _ => rfl
  | r + 1, x => by
    have h3 := ht x
    rw [dO, oO, tC, show (tl x + 3 * tC tl (x + 1) r) % 3 = tl x by omega, show (tl x + 3 * tC tl (x + 1) r) / 3 = tC tl (x + 1) r by omega, dO_tC ht r (x + 1)]
theorem tC_lt {tl : Nat → Nat} (ht : ∀ x, tl x < 3) : ∀ (r x : Nat), tC tl x r < 3 ^ r
  | 0, _ => Nat.one_pos
  | r + 1, x => by
    have h3 := ht x
    have := tC_lt ht r (x + 1)
    rw [tC, Nat.pow_succ]
    omega
theorem dig_tC {tl : Nat → Nat} (ht : ∀ x, tl x < 3) : ∀ (r x i : Nat), i < r → dig i (tC tl x r) = tl (x + i)
  | 0, _, _, hi => by omega
  | r + 1, x, 0, _ => by
    have h3 := ht x
    rw [dig, tC]
    show _ = tl x
    omega
  | r + 1, x, i + 1, hi => by
    have h3 := ht x
    rw [dig, tC, show (tl x + 3 * tC tl (x + 1) r) / 3 = tC tl (x + 1) r by omega, dig_tC ht r (x + 1) i (by omega), show x + (i + 1) = x + 1 + i by omega]
/-- heads, and who stands where -/
def hdN : Nat → Nat → Nat
  | 0, _ => 0
  | r + 1, c => (if c % 3 = 0 then 0 else 1) + hdN r (c / 3)
theorem hdN_le : ∀ (r c : Nat), hdN r c ≤ r
  | 0, _ => Nat.le_refl _
  | r + 1, c => by
    rw [hdN]
    have := hdN_le r (c / 3)
    by_cases h : c % 3 = 0
    · rw [if_pos h]; omega
    · rw [if_neg h]; omega
/-- the count of a triple -/
theorem ct3 (p : Nat → Bool) : ∀ n, fb_ct p (3 * n) = fb_ct (fun c => p (3 * c)) n + fb_ct (fun c => p (3 * c + 1)) n + fb_ct (fun c => p (3 * c + 2)) n
  | 0 => rfl
  | n + 1 => by
    rw [show 3 * (n + 1) = 3 * n + 1 + 1 + 1 by omega, fb_ct_succ, fb_ct_succ, fb_ct_succ, ct3 p n, fb_ct_succ, fb_ct_succ, fb_ct_succ]
    omega
def cM {α : Type} [DecidableEq α] (op : α → α → α) (z : α) (val : Nat → Nat → α) (w : α) (x r : Nat) (dk : α) : Nat := fb_ct (fun c => decide (op dk (dO op z val x r c) = w)) (3 ^ r)
theorem cM_s {α : Type} [DecidableEq α] {op : α → α → α} {z : α} (h : SL op z) (val : Nat → Nat → α) (w : α) (x r : Nat) (dk : α) : cM op z val w x (r + 1) dk = cM op z val w (x + 1) r (op dk (val x 0)) + cM op z val w (x + 1) r (op dk (val x 1)) + cM op z val w (x + 1) r (op dk (val x 2)) := by
  unfold cM
  rw [Nat.pow_succ, Nat.mul_comm, ct3]
  have e : ∀ d, d < 3 → ∀ c, decide (op dk (dO op z val x (r + 1) (3 * c + d)) = w) = decide (op (op dk (val x d)) (dO op z val (x + 1) r c) = w) := fun d hd c => by
    rw [dO, show (3 * c + d) % 3 = d by omega, show (3 * c + d) / 3 = c by omega, h.as]
  exact congr (congrArg HAdd.hAdd (congr (congrArg HAdd.hAdd (fb_ct_cong (fun k _ => e 0 (by omega) k))) (fb_ct_cong (fun k _ => e 1 (by omega) k)))) (fb_ct_cong (fun k _ => e 2 (by omega) k))
theorem cM_0 {α : Type} [DecidableEq α] {op : α → α → α} {z : α} (h : SL op z) {val : Nat → Nat → α} {w : α} {x r : Nat} {dk a : α} (ha : op a dk = dk) (hn : ¬ op a w = w) : cM op z val w x r dk = 0 := by
  unfold cM
  rw [fb_ct_zero]
  intro c _
  refine decide_eq_false (fun e => hn ?_)
  rw [← e]
  exact sl_tr h ha (sl_l h _ _)
/-! packing -/
def pkF (l : List (Nat × Nat)) (f : Nat × Nat → Int32) (v : Int64) : Int64 := l.foldl (fun v q => (v <<< ((10 : Int32).toInt64 &&& 63)) ||| (f q).toInt64) v
theorem shl_or (u v s : Int64) : (u ||| v) <<< s = (u <<< s) ||| (v <<< s) := by
  apply Int64.toBitVec_inj.1
  show (u.toBitVec ||| v.toBitVec) <<< (s.toBitVec.smod 64) = (u.toBitVec <<< (s.toBitVec.smod 64)) ||| (v.toBitVec <<< (s.toBitVec.smod 64))
  exact BitVec.shiftLeft_or_distrib _ _ _
theorem wide_or (a b : Int32) : (a ||| b).toInt64 = a.toInt64 ||| b.toInt64 := by
  apply Int64.toBitVec_inj.1
  show (a.toBitVec ||| b.toBitVec).signExtend 64 = a.toBitVec.signExtend 64 ||| b.toBitVec.signExtend 64
  exact BitVec.signExtend_or
theorem pk_or (f g : Nat × Nat → Int32) : ∀ (l : List (Nat × Nat)) (u v : Int64), pkF l (fun q => f q ||| g q) (u ||| v) = pkF l f u ||| pkF l g v
  | [], _, _ => rfl
  | q :: l, u, v => by
    have e : ∀ (h : Nat × Nat → Int32) (w : Int64), pkF (q :: l) h w = pkF l h ((w <<< ((10 : Int32).toInt64 &&& 63)) ||| (h q).toInt64) := fun _ _ => rfl
    rw [e, e, e, ← pk_or f g l, shl_or, wide_or]
    congr 1
    have s := sl64
    rw [s.as, s.as, ← s.as (v <<< _), s.co (v <<< _) (f q).toInt64, s.as]
theorem pk_0 : ∀ (l : List (Nat × Nat)), pkF l (fun _ => 0) 0 = 0
  | [] => rfl
  | q :: l => by
    have e : pkF (q :: l) (fun _ => 0) 0 = pkF l (fun _ => 0) (((0 : Int64) <<< ((10 : Int32).toInt64 &&& 63)) ||| (0 : Int32).toInt64) := rfl
    rw [e, show ((0 : Int64) <<< ((10 : Int32).toInt64 &&& 63)) ||| (0 : Int32).toInt64 = 0 by decide, pk_0 l]
def lo (x : Int32) : Prop := x = nI x.toNatClampNeg ∧ x.toNatClampNeg < 1024
theorem lo_n {n : Nat} (h : n < 1024) : lo (nI n) := by
  unfold lo
  rw [nI_clamp (by omega)]
  exact ⟨rfl, h⟩
theorem lo_or {x y : Int32} (hx : lo x) (hy : lo y) : lo (x ||| y) := by
  have h1 := hx.2
  have h2 := hy.2
  rw [hx.1, hy.1, fa_or]
  exact lo_n (Nat.or_lt_two_pow (n := 10) h1 h2)
theorem shl10 (n : Nat) : lN n <<< ((10 : Int32).toInt64 &&& 63) = lN (2 ^ 10 * n) := by
  apply Int64.toBitVec_inj.1
  have e : ((10 : Int32).toInt64 &&& 63).toBitVec.smod 64#64 = 10#64 := by decide
  show BitVec.ofNat 64 n <<< (((10 : Int32).toInt64 &&& 63).toBitVec.smod 64#64) = BitVec.ofNat 64 (2 ^ 10 * n)
  rw [e]
  apply BitVec.eq_of_toNat_eq
  show (BitVec.ofNat 64 n <<< (10#64).toNat).toNat = _
  rw [BitVec.toNat_shiftLeft, BitVec.toNat_ofNat, BitVec.toNat_ofNat, show (10 % 2 ^ 64 : Nat) = 10 from rfl, Nat.shiftLeft_eq, Nat.mul_comm (n % 2 ^ 64), Nat.mul_mod_mod, BitVec.toNat_ofNat]
def pN (l : List (Nat × Nat)) (f : Nat × Nat → Nat) (n : Nat) : Nat := l.foldl (fun n q => 1024 * n + f q) n
theorem pk_N {f : Nat × Nat → Int32} : ∀ (l : List (Nat × Nat)) (n : Nat), (∀ q ∈ l, lo (f q)) → pkF l f (lN n) = lN (pN l (fun q => (f q).toNatClampNeg) n)
  | [], _, _ => rfl
  | q :: l, n, h => by
    have hq := h q List.mem_cons_self
    have h2 := hq.2
    have e : pkF (q :: l) f (lN n) = pkF l f ((lN n <<< ((10 : Int32).toInt64 &&& 63)) ||| (f q).toInt64) := rfl
    have e2 : (f q).toInt64 = lN (f q).toNatClampNeg := by
      rw [hq.1, nI_l (by omega), nI_clamp (by omega)]
    have e3 : (lN n <<< ((10 : Int32).toInt64 &&& 63)) ||| lN (f q).toNatClampNeg = lN (1024 * n + (f q).toNatClampNeg) := by
      rw [shl10 n]
      exact fb_or_sumL (k := 10) n h2
    rw [e, e2, e3, pk_N l _ (fun p hp => h p (List.mem_cons_of_mem _ hp))]
    rfl
theorem pN_inj {f g : Nat × Nat → Nat} : ∀ (l : List (Nat × Nat)) (n m : Nat), (∀ q ∈ l, f q < 1024) → (∀ q ∈ l, g q < 1024) → pN l f n = pN l g m → n = m ∧ ∀ q ∈ l, f q = g q
  | [], n, m, _, _, h => ⟨h, fun q hq => by simp at hq⟩
  | p :: l, n, m, hf, hg, h => by
    have h : pN l f (1024 * n + f p) = pN l g (1024 * m + g p) := h
    obtain ⟨h1, h2⟩ := pN_inj l _ _ (fun q hq => hf q (List.mem_cons_of_mem _ hq)) (fun q hq => hg q (List.mem_cons_of_mem _ hq)) h
    have a1 := hf p List.mem_cons_self
    have a2 := hg p List.mem_cons_self
    refine ⟨by omega, fun q hq => ?_⟩
    rcases List.mem_cons.mp hq with rfl | hq
    · omega
    · exact h2 q hq
theorem pN_lt {f : Nat × Nat → Nat} : ∀ (l : List (Nat × Nat)) (n m : Nat), (∀ q ∈ l, f q < 1024) → n < m → pN l f n < m * 1024 ^ l.length
  | [], n, m, _, h => by rw [List.length_nil, Nat.pow_zero, Nat.mul_one]; exact h
  | p :: l, n, m, hf, h => by
    have a1 := hf p List.mem_cons_self
    have e : pN (p :: l) f n = pN l f (1024 * n + f p) := rfl
    have := pN_lt l (1024 * n + f p) (1024 * m) (fun q hq => hf q (List.mem_cons_of_mem _ hq)) (by omega)
    rw [e, List.length_cons, Nat.pow_succ, Nat.mul_comm (1024 ^ l.length), ← Nat.mul_assoc, Nat.mul_comm m]
    exact this
theorem pN_63 {l : List (Nat × Nat)} {h : Nat × Nat → Nat} (hl : l.length ≤ 6) (hh : ∀ q ∈ l, h q < 1024) : pN l h 0 < 2 ^ 63 := by
  have h1 := pN_lt l 0 1 hh Nat.one_pos
  rw [Nat.one_mul] at h1
  exact Nat.lt_of_lt_of_le h1 (Nat.le_trans (Nat.pow_le_pow_right (by omega) hl) (by decide))
theorem fold_cong {β : Type} {F G : β → Nat × Nat → β} : ∀ (l : List (Nat × Nat)) (u : β), (∀ q ∈ l, ∀ v, F v q = G v q) → l.foldl F u = l.foldl G u
  | [], u, _ => by rw [List.foldl_nil, List.foldl_nil]
  | p :: l, u, hh => by
    rw [List.foldl_cons, List.foldl_cons, hh p List.mem_cons_self u]
    exact fold_cong l _ (fun q hq => hh q (List.mem_cons_of_mem _ hq))
theorem pN_cong {f g : Nat × Nat → Int32} (l : List (Nat × Nat)) (n : Nat) (h : ∀ q ∈ l, f q = g q) : pN l (fun q => (f q).toNatClampNeg) n = pN l (fun q => (g q).toNatClampNeg) n := by
  unfold pN
  exact fold_cong l n (fun q hq v => by simp only [h q hq])
theorem pkF_cong {f g : Nat × Nat → Int32} (l : List (Nat × Nat)) (u : Int64) (h : ∀ q ∈ l, f q = g q) : pkF l f u = pkF l g u := by
  unfold pkF
  exact fold_cong l u (fun q hq v => by rw [h q hq])
theorem pk_inj {l : List (Nat × Nat)} {f g : Nat × Nat → Int32} (hl : l.length ≤ 6) (hf : ∀ q ∈ l, lo (f q)) (hg : ∀ q ∈ l, lo (g q)) : pkF l f 0 = pkF l g 0 ↔ ∀ q ∈ l, f q = g q := by
  have hb : ∀ h : Nat × Nat → Nat, (∀ q ∈ l, h q < 1024) → pN l h 0 < 2 ^ 63 := fun h hh => pN_63 hl hh
  have e1 := pk_N (f := f) l 0 hf
  have e2 := pk_N (f := g) l 0 hg
  rw [show lN 0 = (0 : Int64) from rfl] at e1 e2
  rw [e1, e2, fb_lN_inj (hb _ (fun q hq => (hf q hq).2)) (hb _ (fun q hq => (hg q hq).2))]
  constructor
  · intro h q hq
    have := (pN_inj l 0 0 (fun q hq => (hf q hq).2) (fun q hq => (hg q hq).2) h).2 q hq
    rw [(hf q hq).1, (hg q hq).1]
    exact congrArg nI this
  · intro h
    exact pN_cong l 0 h
/-- the values of a column -/
def vI (t x d : Nat) : Int32 := if d = 0 then 0 else if d = 1 then rC 3 x t else rC 6 x t
theorem vI_lo' : ∀ t : Fin 16, ∀ x : Fin 10, ∀ d : Fin 3, vI t.1 x.1 d.1 = nI (vI t.1 x.1 d.1).toNatClampNeg ∧ (vI t.1 x.1 d.1).toNatClampNeg < 1024 := by decide +kernel
theorem vI_lo {t x d : Nat} (ht : t < 16) (hx : x < 10) (hd : d < 3) : lo (vI t x d) := vI_lo' ⟨t, ht⟩ ⟨x, hx⟩ ⟨d, hd⟩
theorem vI_12' : ∀ t : Fin 16, ∀ x : Fin 10, vI t.1 x.1 1 ||| vI t.1 x.1 2 = vI t.1 x.1 2 := by decide +kernel
def dI (t x r c : Nat) : Int32 := dO (· ||| ·) 0 (vI t) x r c
theorem dI_lo {t : Nat} (ht : t < 16) : ∀ (r x c : Nat), x + r ≤ 10 → lo (dI t x r c)
  | 0, _, _, _ => lo_n (n := 0) (by omega)
  | r + 1, x, c, h => lo_or (vI_lo ht (by omega) (Nat.mod_lt _ (by omega))) (dI_lo ht r (x + 1) (c / 3) (by omega))
def vL (sl : List (Nat × Nat)) (x d : Nat) : Int64 := pkF sl (fun q => vI q.1 x d) 0
def wnL (sl : List (Nat × Nat)) : Int64 := pkF sl (fun q => nI q.2) 0
def dL (sl : List (Nat × Nat)) (x r c : Nat) : Int64 := dO (· ||| ·) 0 (vL sl) x r c
theorem dL_pk (sl : List (Nat × Nat)) : ∀ (r x c : Nat), dL sl x r c = pkF sl (fun q => dI q.1 x r c) 0
  | 0, _, _ => (pk_0 sl).symm
  | r + 1, x, c => by
    have e : dL sl x (r + 1) c = vL sl x (c % 3) ||| dL sl (x + 1) r (c / 3) := rfl
    have := pk_or (fun q => vI q.1 x (c % 3)) (fun q => dI q.1 (x + 1) r (c / 3)) sl 0 0
    rw [show (0 : Int64) ||| 0 = 0 by decide] at this
    rw [e, dL_pk sl r (x + 1) (c / 3)]
    exact this.symm
theorem fit_iff {sl : List (Nat × Nat)} (hv : vS sl) (c : Nat) : dL sl 0 10 c = wnL sl ↔ ∀ q ∈ sl, dI q.1 0 10 c = nI q.2 := by
  rw [dL_pk]
  exact pk_inj hv.1 (fun q hq => dI_lo (hv.2 q hq).1 10 0 c (by omega)) (fun q hq => lo_n (hv.2 q hq).2)
theorem vL_0 (sl : List (Nat × Nat)) (x : Nat) : vL sl x 0 = 0 := pk_0 sl
theorem vL_12 {sl : List (Nat × Nat)} (hv : vS sl) {x : Nat} (hx : x < 10) : vL sl x 1 ||| vL sl x 2 = vL sl x 2 := by
  unfold vL
  have := pk_or (fun q => vI q.1 x 1) (fun q => vI q.1 x 2) sl 0 0
  rw [show (0 : Int64) ||| 0 = 0 by decide] at this
  rw [← this]
  exact pkF_cong sl 0 (fun q hq => vI_12' ⟨q.1, (hv.2 q hq).1⟩ ⟨x, hx⟩)
/-- contained, as the class asks it -/
theorem sub64 (a b : Int64) : a &&& (b ^^^ (-1)) = 0 ↔ a ||| b = b := by
  rw [← Int64.toBitVec_inj, ← Int64.toBitVec_inj]
  show a.toBitVec &&& (b.toBitVec ^^^ BitVec.allOnes 64) = 0#64 ↔ a.toBitVec ||| b.toBitVec = b.toBitVec
  constructor
  · intro h
    apply BitVec.eq_of_getLsbD_eq
    intro i hi
    have := congrArg (fun z => z.getLsbD i) h
    simp only [BitVec.getLsbD_and, BitVec.getLsbD_xor, BitVec.getLsbD_allOnes, BitVec.getLsbD_zero, hi, decide_true] at this
    rw [BitVec.getLsbD_or]
    cases h1 : a.toBitVec.getLsbD i <;> cases h2 : b.toBitVec.getLsbD i <;> simp_all
  · intro h
    apply BitVec.eq_of_getLsbD_eq
    intro i hi
    have := congrArg (fun z => z.getLsbD i) h
    simp only [BitVec.getLsbD_or] at this
    simp only [BitVec.getLsbD_and, BitVec.getLsbD_xor, BitVec.getLsbD_allOnes, BitVec.getLsbD_zero, hi, decide_true]
    cases h1 : a.toBitVec.getLsbD i <;> cases h2 : b.toBitVec.getLsbD i <;> simp_all
theorem sub32 (a b : Int32) : a &&& (b ^^^ (-1)) = 0 ↔ a ||| b = b := by
  rw [← Int32.toBitVec_inj, ← Int32.toBitVec_inj]
  show a.toBitVec &&& (b.toBitVec ^^^ BitVec.allOnes 32) = 0#32 ↔ a.toBitVec ||| b.toBitVec = b.toBitVec
  constructor
  · intro h
    apply BitVec.eq_of_getLsbD_eq
    intro i hi
    have := congrArg (fun z => z.getLsbD i) h
    simp only [BitVec.getLsbD_and, BitVec.getLsbD_xor, BitVec.getLsbD_allOnes, BitVec.getLsbD_zero, hi, decide_true] at this
    rw [BitVec.getLsbD_or]
    cases h1 : a.toBitVec.getLsbD i <;> cases h2 : b.toBitVec.getLsbD i <;> simp_all
  · intro h
    apply BitVec.eq_of_getLsbD_eq
    intro i hi
    have := congrArg (fun z => z.getLsbD i) h
    simp only [BitVec.getLsbD_or] at this
    simp only [BitVec.getLsbD_and, BitVec.getLsbD_xor, BitVec.getLsbD_allOnes, BitVec.getLsbD_zero, hi, decide_true]
    cases h1 : a.toBitVec.getLsbD i <;> cases h2 : b.toBitVec.getLsbD i <;> simp_all
theorem cmp0 (a b : Int64) : lg_cmp a b = 0 ↔ a = b := by
  constructor
  · intro h
    rcases (show a.toInt < b.toInt ∨ a.toInt = b.toInt ∨ b.toInt < a.toInt by omega) with h1 | h1 | h1
    · have := (lg_cmp_lt a b).mpr ((fa_lt64 _ _).mpr h1)
      rw [h] at this
      exact absurd this (by decide)
    · exact Int64.toInt_inj.mp h1
    · have := (lg_cmp_gt a b).mpr ((fa_lt64 _ _).mpr h1)
      rw [h] at this
      exact absurd this (by decide)
  · rintro rfl
    by_cases h1 : lg_cmp a a < 0
    · have := (fa_lt64 _ _).mp ((lg_cmp_lt a a).mp h1)
      omega
    · by_cases h2 : 0 < lg_cmp a a
      · have := (fa_lt64 _ _).mp ((lg_cmp_gt a a).mp h2)
        omega
      · rw [fa_lt] at h1 h2
        rw [fa_eq]
        have e0 : (0 : Int32).toInt = 0 := rfl
        omega
