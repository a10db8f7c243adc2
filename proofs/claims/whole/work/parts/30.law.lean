def R_law : String := "ShadowCountLaw"
def lw_P (b : Addr) (xs : List Int32) (args : Array Value) (s : State) : Prop := args = #[.ref b] ∧ s.IntsAt b xs ∧ xs.length ≤ 2560 ∧ (Jvm.Cond.and given_1 narrow_1).before args s = true
def lw_Q (_ : Array Value) (s : State) (o : Outcome) (t : State) : Prop := o = .returned (some (.int 1)) ∧ Framed s o t [] 600000 7302250
def lw_Z (below : List Frame) (a : Array Value) (s : State) : State → Prop := fun t => ∃ o, t.status = .running ∧ Ended t below o ∧ lw_Q a s o t
/-- the law's own end, with 1 on the stack, nothing written that was there before, its room as the claim has it -/
theorem lw_ret {p : Program} {l : Launch} {e : Env} {s : State} {m : MethodId} {below : List Frame} {meth : Method} {c : Code} {b : Nat} (hx : p.tables.exec = Jvm.exec) (hb : c.code = code) (hr : meth.sig.returnType = ret) (hlocks : meth.locks = false) {pc : Nat} {H : Heap} {ls : Array Slot} (hdg : decode code pc = .ok (.ireturn, 1)) : W p l e room_1 s m #[Value.ref b] below meth c H [] 600000 7302250 (lw_Z below #[Value.ref b] s) (F0 m pc ls [.int 1]) := by
  intro T hT X
  obtain ⟨fs, hret, hrun, hended, hW, hframe⟩ := X.leave (v := some (.int 1)) (hlocks := hlocks) (fun h => by rw [hr] at h; cases h)
  have hmeth' : T.vm.method? m = some meth := X.method'
  refine ⟨T.setFrames fs, ?_, .returned (some (.int 1)), hrun, hended, rfl, ⟨_, rfl⟩, hW, hframe⟩
  jvm_step X.here [X.here.top, hx, hb, hdg, hmeth', hr, ret, narrow_b1]
  (try refine ⟨rfl, ?_⟩); (try refine ⟨rfl, ?_⟩)
  first | (intro acts; rw [hret _ acts rfl rfl rfl]) | rw [hret _ _ rfl rfl rfl]
  exact Steps.refl _
/-- what holds at the law's entry: the machine, the code, the tables' words (any of lw_tbl by 'hts w (by decide +kernel)'), the script of L ints xs at the cell b, what the Statement gives of the start (any of its parts by flat_of_before) -/
def lw_At (p : Program) (s : State) (m : MethodId) (meth : Method) (c : Code) (b L : Nat) (xs : Nat → Int32) : Prop :=
  p.tables.exec = Jvm.exec ∧ c.code = code ∧ meth.sig.returnType = ret ∧ c.maxLocals = 4 ∧ s.vm.findClass R_law = some m.cls ∧ (∀ w ∈ lw_tbl, w.before #[Value.ref b] s = true) ∧ va_X b L xs s s.heap ∧ b < s.heap.size ∧ meth.locks = false ∧ (Jvm.Cond.and given_1 narrow_1).before #[Value.ref b] s = true

/-! THE LAW: its loop, over an invariant that every call keeps -/
abbrev SS : Type := Nat → ST
def uS (S : SS) (k : Nat) (σ : ST) : SS := fun j => if j = k then σ else S j
def FU : Nat := 100000
def lwW (G : GP) (u : AU) (S : SS) : List va_W := [wM (u 0 0) (u 1 0) (u 2 0) (u 6 0) (u 9 0) (u 10 0) (u 11 0) (u 12 0) (u 13 0), wT G (u 1) (S 1), wE G (u 2) (u 3 0) (S 2), wF (u 3 0) (u 4 0) (u 5 0), wB G (u 4) (S 4), wD G (u 5) (S 5), wF (u 6 0) (u 7 0) (u 8 0), wB G (u 7) (S 7), wD G (u 8) (S 8), wA G (u 9) (S 9), wR G (u 10) (S 10), wS G (u 11) (S 11), wP G (u 12) (S 12), wZ G (u 13 0) (u 14 0) (u 17 0), wL (u 14 0) (u 15 0) (u 16 0) (S 14), wB G (u 15) (S 15), wS G (u 16) (S 16), wL (u 17 0) (u 18 0) (u 19 0) (S 17), wB G (u 18) (S 18), wS G (u 19) (S 19), wX G (u 20) (S 20)]
def St_write (I : SS → Prop) : Prop := ∀ (S : SS) (x1 : Int32) (x2 : Int64), I S → ∃ (r : Int32 × ST) (r' : Int32 × ST), fX10_write FU (S 1) x1 x2 = some r ∧ fX11_write FU (S 20) x1 x2 = some r' ∧ r.1 = r'.1 ∧ I (uS (uS S 1 r.2) 20 r'.2)
def St_wipe (I : SS → Prop) : Prop := ∀ (S : SS) , I S → ∃ (r : Int32 × ST) (r' : Int32 × ST), fX10_wipe FU (S 1)  = some r ∧ fX11_wipe FU (S 20)  = some r' ∧ r.1 = r'.1 ∧ I (uS (uS S 1 r.2) 20 r'.2)
def St_fault (I : SS → Prop) : Prop := ∀ (S : SS) , I S → ∃ (r : Int32 × ST × ST × ST) (r' : Int32 × ST), fX10_fault FU (S 1) (S 2) (S 4) (S 5)  = some r ∧ fX11_fault FU (S 20)  = some r' ∧ r.1 = r'.1 ∧ I (uS (uS (uS (uS S 2 r.2.1) 4 r.2.2.1) 5 r.2.2.2) 20 r'.2)
def St_place (I : SS → Prop) : Prop := ∀ (S : SS) , I S → ∃ (r : Int32 × ST × ST × ST × ST × ST × ST × ST × ST) (r' : Int32 × ST), fX10_place FU (S 1) (S 2) (S 4) (S 5) (S 7) (S 8) (S 9) (S 14) (S 17)  = some r ∧ fX11_place FU (S 20)  = some r' ∧ r.1 = r'.1 ∧ I (uS (uS (uS (uS (uS (uS (uS (uS (uS S 2 r.2.1) 4 r.2.2.1) 5 r.2.2.2.1) 7 r.2.2.2.2.1) 8 r.2.2.2.2.2.1) 9 r.2.2.2.2.2.2.1) 14 r.2.2.2.2.2.2.2.1) 17 r.2.2.2.2.2.2.2.2) 20 r'.2)
def St_body (I : SS → Prop) : Prop := ∀ (S : SS) (x1 : Int32) (x2 : Int32), I S → ∃ (r : Int32) (r' : Int32), fX10_body FU (S 7) x1 x2 = some r ∧ fX11_body FU (S 20) x1 x2 = some r' ∧ r = r'
def St_hill (I : SS → Prop) : Prop := ∀ (S : SS) (x1 : Int32) (x2 : Int32), I S → ∃ (r : Int32) (r' : Int32), fX10_hill FU (S 8) x1 x2 = some r ∧ fX11_hill FU (S 20) x1 x2 = some r' ∧ r = r'
def St_put (I : SS → Prop) : Prop := ∀ (S : SS) (x1 : Int32) (x2 : Int32) (x3 : Int32), I S → ∃ (r : Int32 × ST × ST) (r' : Int32 × ST), fX10_put FU (S 7) (S 9) x1 x2 x3 = some r ∧ fX11_put FU (S 20) x1 x2 x3 = some r' ∧ r.1 = r'.1 ∧ I (uS (uS (uS S 7 r.2.1) 9 r.2.2) 20 r'.2)
def St_move (I : SS → Prop) : Prop := ∀ (S : SS) (x1 : Int32) (x2 : Int32) (x3 : Int32), I S → ∃ (r : Int32 × ST × ST) (r' : Int32 × ST), fX10_move FU (S 7) (S 9) x1 x2 x3 = some r ∧ fX11_move FU (S 20) x1 x2 x3 = some r' ∧ r.1 = r'.1 ∧ I (uS (uS (uS S 7 r.2.1) 9 r.2.2) 20 r'.2)
def St_take (I : SS → Prop) : Prop := ∀ (S : SS) (x1 : Int32), I S → ∃ (r : Int32 × ST × ST) (r' : Int32 × ST), fX10_take FU (S 7) (S 9) x1 = some r ∧ fX11_take FU (S 20) x1 = some r' ∧ r.1 = r'.1 ∧ I (uS (uS (uS S 7 r.2.1) 9 r.2.2) 20 r'.2)
def St_back (I : SS → Prop) : Prop := ∀ (S : SS) , I S → ∃ (r : Int32 × ST × ST) (r' : Int32 × ST), fX10_back FU (S 7) (S 9)  = some r ∧ fX11_back FU (S 20)  = some r' ∧ r.1 = r'.1 ∧ I (uS (uS (uS S 7 r.2.1) 9 r.2.2) 20 r'.2)
def St_shadow (I : SS → Prop) : Prop := ∀ (S : SS) (x1 : Int32) (x2 : Int32), I S → ∃ (r : Int32) (r' : Int32), fX10_shadow FU (S 7) x1 x2 = some r ∧ fX11_shadow FU (S 20) x1 x2 = some r' ∧ r = r'
def St_dark (I : SS → Prop) : Prop := ∀ (S : SS) (x1 : Int32) (x2 : Int32), I S → ∃ (r : Int32) (r' : Int32), fX10_dark FU (S 7) (S 8) x1 x2 = some r ∧ fX11_dark FU (S 20) x1 x2 = some r' ∧ r = r'
def St_runs (I : SS → Prop) : Prop := ∀ (S : SS) (x1 : Int32) (x2 : Int32), I S → ∃ (r : Int32 × ST) (r' : Int32 × ST), fX10_runs FU (S 7) (S 8) (S 10) x1 x2 = some r ∧ fX11_runs FU (S 20) x1 x2 = some r' ∧ r.1 = r'.1 ∧ I (uS (uS S 10 r.2) 20 r'.2)
def St_run (I : SS → Prop) : Prop := ∀ (S : SS) (x1 : Int32) (x2 : Int32) (x3 : Int32) (x4 : Int32), I S → ∃ (r : Int32 × ST) (r' : Int32 × ST), fX10_run FU (S 7) (S 8) (S 10) x1 x2 x3 x4 = some r ∧ fX11_run FU (S 20) x1 x2 x3 x4 = some r' ∧ r.1 = r'.1 ∧ I (uS (uS S 10 r.2) 20 r'.2)
def St_alone (I : SS → Prop) : Prop := ∀ (S : SS) (x1 : Int32), I S → ∃ (r : Int32) (r' : Int32), fX10_alone FU (S 7) (S 8) x1 = some r ∧ fX11_alone FU (S 20) x1 = some r' ∧ r = r'
def St_counted (I : SS → Prop) : Prop := ∀ (S : SS) (x1 : Int32) (x2 : Int32), I S → ∃ (r : Int32 × ST) (r' : Int32 × ST), fX10_counted FU (S 7) (S 8) (S 10) x1 x2 = some r ∧ fX11_counted FU (S 20) x1 x2 = some r' ∧ r.1 = r'.1 ∧ I (uS (uS S 10 r.2) 20 r'.2)
def St_best (I : SS → Prop) : Prop := ∀ (S : SS) (x1 : Int32), I S → ∃ (r : Int32 × ST) (r' : Int32 × ST), fX10_best FU (S 7) (S 8) (S 10) x1 = some r ∧ fX11_best FU (S 20) x1 = some r' ∧ r.1 = r'.1 ∧ I (uS (uS S 10 r.2) 20 r'.2)
def St_hide (I : SS → Prop) : Prop := ∀ (S : SS) (x1 : Int32), I S → ∃ (r : Int32) (r' : Int32), fX10_hide FU (S 7) (S 8) x1 = some r ∧ fX11_hide FU (S 20) x1 = some r' ∧ r = r'
def St_sight (I : SS → Prop) : Prop := ∀ (S : SS) (x1 : Int32) (x2 : Int32), I S → ∃ (r : Int32 × ST) (r' : Int32 × ST), fX10_sight FU (S 11) x1 x2 = some r ∧ fX11_sight FU (S 20) x1 x2 = some r' ∧ r.1 = r'.1 ∧ I (uS (uS S 11 r.2) 20 r'.2)
def St_unsee (I : SS → Prop) : Prop := ∀ (S : SS) , I S → ∃ (r : Int32 × ST) (r' : Int32 × ST), fX10_unsee FU (S 11)  = some r ∧ fX11_unsee FU (S 20)  = some r' ∧ r.1 = r'.1 ∧ I (uS (uS S 11 r.2) 20 r'.2)
def St_fits (I : SS → Prop) : Prop := ∀ (S : SS) , I S → ∃ (r : Int32 × ST) (r' : Int32 × ST), fX10_fits FU (S 11) (S 12)  = some r ∧ fX11_fits FU (S 20)  = some r' ∧ r.1 = r'.1 ∧ I (uS (uS S 12 r.2) 20 r'.2)
def St_people (I : SS → Prop) : Prop := ∀ (S : SS) (x1 : Int32), I S → (x1 = 0 ∨ x1 = 1) → ∃ (r : Int32 × ST) (r' : Int32 × ST), fX10_people FU (S 11) (S 12) x1 = some r ∧ fX11_people FU (S 20) x1 = some r' ∧ r.1 = r'.1 ∧ I (uS (uS S 12 r.2) 20 r'.2)
def St_sure (I : SS → Prop) : Prop := ∀ (S : SS) , I S → ∃ (r : Int32 × ST) (r' : Int32 × ST), fX10_sure FU (S 11) (S 12)  = some r ∧ fX11_sure FU (S 20)  = some r' ∧ r.1 = r'.1 ∧ I (uS (uS S 12 r.2) 20 r'.2)
def St_next (I : SS → Prop) : Prop := ∀ (S : SS) , I S → ∃ (r : Int32 × ST) (r' : Int32 × ST), fX10_next FU (S 11) (S 12)  = some r ∧ fX11_next FU (S 20)  = some r' ∧ r.1 = r'.1 ∧ I (uS (uS S 12 r.2) 20 r'.2)
def St_keep (I : SS → Prop) : Prop := ∀ (S : SS) (x1 : Int32), I S → ∃ (r : Int32 × ST × ST × ST × ST × ST × ST) (r' : Int32 × ST), fX10_keep FU (S 7) (S 11) (S 14) (S 15) (S 16) (S 17) (S 18) (S 19) x1 = some r ∧ fX11_keep FU (S 20) x1 = some r' ∧ r.1 = r'.1 ∧ I (uS (uS (uS (uS (uS (uS (uS S 14 r.2.1) 15 r.2.2.1) 16 r.2.2.2.1) 17 r.2.2.2.2.1) 18 r.2.2.2.2.2.1) 19 r.2.2.2.2.2.2) 20 r'.2)
def St_again (I : SS → Prop) : Prop := ∀ (S : SS) (x1 : Int32), I S → ∃ (r : Int32 × ST × ST × ST) (r' : Int32 × ST), fX10_again FU (S 7) (S 11) (S 9) (S 14) (S 15) (S 16) (S 17) (S 18) (S 19) x1 = some r ∧ fX11_again FU (S 20) x1 = some r' ∧ r.1 = r'.1 ∧ I (uS (uS (uS (uS S 7 r.2.1) 11 r.2.2.1) 9 r.2.2.2) 20 r'.2)
def St_count (I : SS → Prop) : Prop := ∀ (S : SS) (x1 : Int32), I S → ∃ (r : Int32) (r' : Int32), fX10_count FU (S 1) (S 7) (S 8) (S 11) (S 9) x1 = some r ∧ fX11_count FU (S 20) x1 = some r' ∧ r = r'
def Sts (I : SS → Prop) : Prop := St_write I ∧ St_wipe I ∧ St_fault I ∧ St_place I ∧ St_body I ∧ St_hill I ∧ St_put I ∧ St_move I ∧ St_take I ∧ St_back I ∧ St_shadow I ∧ St_dark I ∧ St_runs I ∧ St_run I ∧ St_alone I ∧ St_counted I ∧ St_best I ∧ St_hide I ∧ St_sight I ∧ St_unsee I ∧ St_fits I ∧ St_people I ∧ St_sure I ∧ St_next I ∧ St_keep I ∧ St_again I ∧ St_count I
theorem lw_ix {i L : Nat} {x3 : Int32} (hi : i + 5 ≤ L) (hL : L ≤ 2560) (ex : x3 = nI i) (k : Nat) (hk : k < 5) {c : Int32} (hc : c = nI k) : vp_in (x3 + c) L := by
  rw [ex, hc, nI_add]
  exact vp_in_nI (by omega) (by omega)
theorem lw_ix0 {i L : Nat} {x3 : Int32} (hi : i + 5 ≤ L) (hL : L ≤ 2560) (ex : x3 = nI i) : vp_in x3 L := by
  rw [ex]
  exact vp_in_nI (by omega) (by omega)
theorem lw_cond {i L : Nat} {x3 : Int32} (hL : L ≤ 2560) (hi : i ≤ L + 5) (ex : x3 = nI i) (h : ¬ Int32.ofNat L - 5 < x3) : i + 5 ≤ L := by
  rw [Int32.lt_iff_toInt_lt, ex, show (5 : Int32) = nI 5 from rfl, show Int32.ofNat L = nI L from rfl, pk_sub_toInt (by omega) (by omega), nI_toInt (by omega)] at h
  omega
set_option maxHeartbeats 8000000 in
set_option maxRecDepth 100000 in
theorem law_loop {p : Program} {l : Launch} {e : Env} {s : State} {m : MethodId} {below : List Frame} {meth : Method} {c : Code} {b L : Nat} {xs : Nat → Int32} (hL : L ≤ 2560) (C0 : lw_At p s m meth c b L xs) {G : GP} (K : Cx p s m meth c G code RL 4 ret #[Value.ref b] (fun q : Nat => s.heap.size ≤ q)) (u : AU) {I : SS → Prop} (T : Sts I) :
    ∀ (n i : Nat) (x3 : Int32), i ≤ L + 5 → L + 6 ≤ i + n → x3 = nI i → ∀ (S : SS), I S → ∀ (H : Heap) (locs : List Loc), va_P G.1 vwCl (List.flatten (lwW G u S)) H → va_D (fun q : Nat => s.heap.size ≤ q) (List.flatten (lwW G u S)) → va_S (fun q : Nat => s.heap.size ≤ q) s.heap H locs → ∀ (ls : Array Slot), lv_has ls 4 [(0, .ref b), (1, .ref (u 0 0)), (2, .ref (u 20 0)), (3, .int x3)] → W p l e room_1 s m #[Value.ref b] below meth c H locs 96 18324 (lw_Z below #[Value.ref b] s) (F0 m 18 ls []) := by
  obtain ⟨-, -, hr, hml, -, -, hX, hbl, hlocks, hgv⟩ := id C0
  obtain ⟨hx, hb, -, -, hts, hown, -, hA, hG⟩ := id K
  have hbA : ¬ (fun q : Nat => s.heap.size ≤ q) b := Nat.not_le.mpr hbl
  obtain ⟨t_write, t_wipe, t_fault, t_place, t_body, t_hill, t_put, t_move, t_take, t_back, t_shadow, t_dark, t_runs, t_run, t_alone, t_counted, t_best, t_hide, t_sight, t_unsee, t_fits, t_people, t_sure, t_next, t_keep, t_again, t_count⟩ := T
  intro n
  induction n with
  | zero =>
    intro i x3 h1 h2
    exact absurd h2 (by omega)
  | succ n ih =>
    intro i x3 hi hin ex S hI H locs hP hD hS ls hl
    refine lv_iload_n hx hb dL_law_18 rfl (lv_at hl 3 rfl) ?_
    refine lv_aload_n hx hb dL_law_19 rfl (lv_at hl 0 rfl) ?_
    refine va_slen hx hb hX hbl hbA hS dL_law_20 ?_
    refine lv_iconst (v := 5) hx hb dL_law_21 li_5 ?_
    refine lv_isub hx hb dL_law_22 ?_
    refine lv_icmp_gt (tgt := 899) hx hb dL_law_23 (by decide) (fun c9 => ?_) (fun c9 => ?_)
    · refine lv_iconst (v := 1) hx hb dL_law_899 li_1 ?_
      refine va_forget (fun q hq => hS.2.2 q hq) ?_
      refine W.widen (k := 600000) (n := 7302250) (Nat.le_of_ble_eq_true rfl) (Nat.le_of_ble_eq_true rfl) ?_
      exact lw_ret hx hb hr hlocks dL_law_900
    have hi5 := lw_cond hL hi ex c9
    have tail : ∀ (S : SS), I S → ∀ (H : Heap) (locs : List Loc), va_P G.1 vwCl (List.flatten (lwW G u S)) H → va_D (fun q : Nat => s.heap.size ≤ q) (List.flatten (lwW G u S)) → va_S (fun q : Nat => s.heap.size ≤ q) s.heap H locs → W p l e room_1 s m #[Value.ref b] below meth c H locs 96 18324 (lw_Z below #[Value.ref b] s) (F0 m 893 ls []) := by
      intro S hI H locs hP hD hS
      refine lv_iinc (v := x3 + 5) (lv' := [(3, .int (x3 + 5)), (0, .ref b), (1, .ref (u 0 0)), (2, .ref (u 20 0))]) hx hb dL_law_893 hl (k := 3) rfl (by rw [li_5]) (Nat.le_of_ble_eq_true rfl) rfl (fun ls hl => ?_)
      refine lv_goto (tgt := 18) hx hb dL_law_896 (by decide) ?_
      exact ih (i + 5) (x3 + 5) (by omega) (by omega) (by rw [ex, show (5 : Int32) = nI 5 from rfl, nI_add]) S hI H locs hP hD hS ls (lv_sub hl [1, 2, 3, 0] rfl)
    refine lv_aload_n hx hb dL_law_26 rfl (lv_at hl 0 rfl) ?_
    refine lv_iload_n hx hb dL_law_27 rfl (lv_at hl 3 rfl) ?_
    refine va_sld hx hb hX hbl hbA hS (lw_ix0 hi5 hL ex) dL_law_28 ?_
    refine lv_bipush (v := 31) hx hb dL_law_29 lb_31 ?_
    refine lv_iand hx hb dL_law_31 ?_
    refine lv_topi (fun sv esv => ?_)
    by_cases c0 : sv = 0
    · refine lv_tableIn (off := 124) (tgt := 156) hx hb dL_law_32 (by rw [c0]; decide) (by rw [c0]; decide) (by rw [c0] <;> rfl) (by decide) ?_
      obtain ⟨r, r', h1, h2, heq, hI2⟩ := t_write S (xs (x3 + 1).toNatClampNeg) (((xs (x3 + 2).toNatClampNeg).toInt64 <<< ((32 : Int32).toInt64 &&& 63)) ||| (((xs (x3 + 3).toNatClampNeg).toInt64) &&& (4294967295 : Int64))) hI
      refine lv_aload_n hx hb dL_law_156 rfl (lv_at hl 1 rfl) ?_
      refine lv_aload_n hx hb dL_law_157 rfl (lv_at hl 0 rfl) ?_
      refine lv_iload_n hx hb dL_law_158 rfl (lv_at hl 3 rfl) ?_
      refine lv_iconst (v := 1) hx hb dL_law_159 li_1 ?_
      refine lv_iadd hx hb dL_law_160 ?_
      refine va_sld hx hb hX hbl hbA hS (lw_ix hi5 hL ex 1 (by decide) rfl) dL_law_161 ?_
      refine lv_aload_n hx hb dL_law_162 rfl (lv_at hl 0 rfl) ?_
      refine lv_iload_n hx hb dL_law_163 rfl (lv_at hl 3 rfl) ?_
      refine lv_iconst (v := 2) hx hb dL_law_164 li_2 ?_
      refine lv_iadd hx hb dL_law_165 ?_
      refine va_sld hx hb hX hbl hbA hS (lw_ix hi5 hL ex 2 (by decide) rfl) dL_law_166 ?_
      refine lv_i2l hx hb dL_law_167 rfl ?_
      refine lv_bipush (v := 32) hx hb dL_law_168 lb_32 ?_
      refine lv_lshl hx hb dL_law_170 rfl ?_
      refine lv_aload_n hx hb dL_law_171 rfl (lv_at hl 0 rfl) ?_
      refine lv_iload_n hx hb dL_law_172 rfl (lv_at hl 3 rfl) ?_
      refine lv_iconst (v := 3) hx hb dL_law_173 li_3 ?_
      refine lv_iadd hx hb dL_law_174 ?_
      refine va_sld hx hb hX hbl hbA hS (lw_ix hi5 hL ex 3 (by decide) rfl) dL_law_175 ?_
      refine lv_i2l hx hb dL_law_176 rfl ?_
      refine lv_ldc2 (v := 4294967295) hx hb hown (hts _ tw_5_206) dL_law_177 ?_
      refine lv_land hx hb dL_law_180 ?_
      refine lv_lor hx hb dL_law_181 ?_
      refine sl_V (Ws := lwW G u S) (q0 := 0) (ci := 10) (C := RX10) K (mX10_write l G FU (u 0 0) (u 1) (u 2 0) (u 6 0) (u 9 0) (u 10 0) (u 11 0) (u 12 0) (u 13 0) (S 1) (xs (x3 + 1).toNatClampNeg) (((xs (x3 + 2).toNatClampNeg).toInt64 <<< ((32 : Int32).toInt64 &&& 63)) ||| (((xs (x3 + 3).toNatClampNeg).toInt64) &&& (4294967295 : Int64))) h1) tw_2_69 tw_1_1 tw_2_67 tw_2_68 tw_2_66 cdX10_write ⟨Nat.le_of_ble_eq_true rfl, Nat.le_of_ble_eq_true rfl⟩ hP hD hS [0, 1] rfl rfl rfl rfl rfl rfl rfl hl.1 (Nat.le_of_ble_eq_true rfl) ⟨Nat.le_of_ble_eq_true rfl, Nat.le_of_ble_eq_true rfl⟩ dL_law_182 (fun H locs hP hD hS => ?_)
      have hP : va_P G.1 vwCl (List.flatten (lwW G u (uS S 1 r.2))) H := hP
      have hD : va_D (fun q : Nat => s.heap.size ≤ q) (List.flatten (lwW G u (uS S 1 r.2))) := hD
      refine lv_aload_n hx hb dL_law_185 rfl (lv_at hl 2 rfl) ?_
      refine lv_aload_n hx hb dL_law_186 rfl (lv_at hl 0 rfl) ?_
      refine lv_iload_n hx hb dL_law_187 rfl (lv_at hl 3 rfl) ?_
      refine lv_iconst (v := 1) hx hb dL_law_188 li_1 ?_
      refine lv_iadd hx hb dL_law_189 ?_
      refine va_sld hx hb hX hbl hbA hS (lw_ix hi5 hL ex 1 (by decide) rfl) dL_law_190 ?_
      refine lv_aload_n hx hb dL_law_191 rfl (lv_at hl 0 rfl) ?_
      refine lv_iload_n hx hb dL_law_192 rfl (lv_at hl 3 rfl) ?_
      refine lv_iconst (v := 2) hx hb dL_law_193 li_2 ?_
      refine lv_iadd hx hb dL_law_194 ?_
      refine va_sld hx hb hX hbl hbA hS (lw_ix hi5 hL ex 2 (by decide) rfl) dL_law_195 ?_
      refine lv_i2l hx hb dL_law_196 rfl ?_
      refine lv_bipush (v := 32) hx hb dL_law_197 lb_32 ?_
      refine lv_lshl hx hb dL_law_199 rfl ?_
      refine lv_aload_n hx hb dL_law_200 rfl (lv_at hl 0 rfl) ?_
      refine lv_iload_n hx hb dL_law_201 rfl (lv_at hl 3 rfl) ?_
      refine lv_iconst (v := 3) hx hb dL_law_202 li_3 ?_
      refine lv_iadd hx hb dL_law_203 ?_
      refine va_sld hx hb hX hbl hbA hS (lw_ix hi5 hL ex 3 (by decide) rfl) dL_law_204 ?_
      refine lv_i2l hx hb dL_law_205 rfl ?_
      refine lv_ldc2 (v := 4294967295) hx hb hown (hts _ tw_5_206) dL_law_206 ?_
      refine lv_land hx hb dL_law_209 ?_
      refine lv_lor hx hb dL_law_210 ?_
      refine sl_V (Ws := lwW G u (uS S 1 r.2)) (q0 := 75) (ci := 11) (C := RX11) K (mX11_write l G FU (u 20) (S 20) (xs (x3 + 1).toNatClampNeg) (((xs (x3 + 2).toNatClampNeg).toInt64 <<< ((32 : Int32).toInt64 &&& 63)) ||| (((xs (x3 + 3).toNatClampNeg).toInt64) &&& (4294967295 : Int64))) h2) tw_4_213 tw_1_12 tw_4_211 tw_4_212 tw_4_210 cdX11_write ⟨Nat.le_of_ble_eq_true rfl, Nat.le_of_ble_eq_true rfl⟩ hP hD hS [20] rfl rfl rfl rfl rfl rfl rfl hl.1 (Nat.le_of_ble_eq_true rfl) ⟨Nat.le_of_ble_eq_true rfl, Nat.le_of_ble_eq_true rfl⟩ dL_law_211 (fun H locs hP hD hS => ?_)
      have hP : va_P G.1 vwCl (List.flatten (lwW G u (uS (uS S 1 r.2) 20 r'.2))) H := hP
      have hD : va_D (fun q : Nat => s.heap.size ≤ q) (List.flatten (lwW G u (uS (uS S 1 r.2) 20 r'.2))) := hD
      refine lv_icmp_eq (tgt := 893) hx hb dL_law_214 (by decide) (fun _ => ?_) (fun c9 => absurd heq c9)
      exact tail (uS (uS S 1 r.2) 20 r'.2) hI2 H locs hP hD hS
    by_cases c1 : sv = 1
    · refine lv_tableIn (off := 187) (tgt := 219) hx hb dL_law_32 (by rw [c1]; decide) (by rw [c1]; decide) (by rw [c1] <;> rfl) (by decide) ?_
      obtain ⟨r, r', h1, h2, heq, hI2⟩ := t_wipe S  hI
      refine lv_aload_n hx hb dL_law_219 rfl (lv_at hl 1 rfl) ?_
      refine sl_V (Ws := lwW G u S) (q0 := 0) (ci := 10) (C := RX10) K (mX10_wipe l G FU (u 0 0) (u 1) (u 2 0) (u 6 0) (u 9 0) (u 10 0) (u 11 0) (u 12 0) (u 13 0) (S 1) h1) tw_2_77 tw_1_1 tw_2_75 tw_2_76 tw_2_74 cdX10_wipe ⟨Nat.le_of_ble_eq_true rfl, Nat.le_of_ble_eq_true rfl⟩ hP hD hS [0, 1] rfl rfl rfl rfl rfl rfl rfl hl.1 (Nat.le_of_ble_eq_true rfl) ⟨Nat.le_of_ble_eq_true rfl, Nat.le_of_ble_eq_true rfl⟩ dL_law_220 (fun H locs hP hD hS => ?_)
      have hP : va_P G.1 vwCl (List.flatten (lwW G u (uS S 1 r.2))) H := hP
      have hD : va_D (fun q : Nat => s.heap.size ≤ q) (List.flatten (lwW G u (uS S 1 r.2))) := hD
      refine lv_aload_n hx hb dL_law_223 rfl (lv_at hl 2 rfl) ?_
      refine sl_V (Ws := lwW G u (uS S 1 r.2)) (q0 := 75) (ci := 11) (C := RX11) K (mX11_wipe l G FU (u 20) (S 20) h2) tw_4_222 tw_1_12 tw_4_220 tw_4_221 tw_4_219 cdX11_wipe ⟨Nat.le_of_ble_eq_true rfl, Nat.le_of_ble_eq_true rfl⟩ hP hD hS [20] rfl rfl rfl rfl rfl rfl rfl hl.1 (Nat.le_of_ble_eq_true rfl) ⟨Nat.le_of_ble_eq_true rfl, Nat.le_of_ble_eq_true rfl⟩ dL_law_224 (fun H locs hP hD hS => ?_)
      have hP : va_P G.1 vwCl (List.flatten (lwW G u (uS (uS S 1 r.2) 20 r'.2))) H := hP
      have hD : va_D (fun q : Nat => s.heap.size ≤ q) (List.flatten (lwW G u (uS (uS S 1 r.2) 20 r'.2))) := hD
      refine lv_icmp_eq (tgt := 893) hx hb dL_law_227 (by decide) (fun _ => ?_) (fun c9 => absurd heq c9)
      exact tail (uS (uS S 1 r.2) 20 r'.2) hI2 H locs hP hD hS
    by_cases c2 : sv = 2
    · refine lv_tableIn (off := 200) (tgt := 232) hx hb dL_law_32 (by rw [c2]; decide) (by rw [c2]; decide) (by rw [c2] <;> rfl) (by decide) ?_
      obtain ⟨r, r', h1, h2, heq, hI2⟩ := t_fault S  hI
      refine lv_aload_n hx hb dL_law_232 rfl (lv_at hl 1 rfl) ?_
      refine sl_V (Ws := lwW G u S) (q0 := 0) (ci := 10) (C := RX10) K (mX10_fault l G FU (u 0 0) (u 1) (u 2) (u 3 0) (u 4) (u 5) (u 6 0) (u 9 0) (u 10 0) (u 11 0) (u 12 0) (u 13 0) (S 1) (S 2) (S 4) (S 5) h1) tw_2_81 tw_1_1 tw_2_79 tw_2_80 tw_2_78 cdX10_fault ⟨Nat.le_of_ble_eq_true rfl, Nat.le_of_ble_eq_true rfl⟩ hP hD hS [0, 1, 2, 3, 4, 5] rfl rfl rfl rfl rfl rfl rfl hl.1 (Nat.le_of_ble_eq_true rfl) ⟨Nat.le_of_ble_eq_true rfl, Nat.le_of_ble_eq_true rfl⟩ dL_law_233 (fun H locs hP hD hS => ?_)
      have hP : va_P G.1 vwCl (List.flatten (lwW G u (uS (uS (uS S 2 r.2.1) 4 r.2.2.1) 5 r.2.2.2))) H := hP
      have hD : va_D (fun q : Nat => s.heap.size ≤ q) (List.flatten (lwW G u (uS (uS (uS S 2 r.2.1) 4 r.2.2.1) 5 r.2.2.2))) := hD
      refine lv_aload_n hx hb dL_law_236 rfl (lv_at hl 2 rfl) ?_
      refine sl_V (Ws := lwW G u (uS (uS (uS S 2 r.2.1) 4 r.2.2.1) 5 r.2.2.2)) (q0 := 75) (ci := 11) (C := RX11) K (mX11_fault l G FU (u 20) (S 20) h2) tw_4_226 tw_1_12 tw_4_224 tw_4_225 tw_4_223 cdX11_fault ⟨Nat.le_of_ble_eq_true rfl, Nat.le_of_ble_eq_true rfl⟩ hP hD hS [20] rfl rfl rfl rfl rfl rfl rfl hl.1 (Nat.le_of_ble_eq_true rfl) ⟨Nat.le_of_ble_eq_true rfl, Nat.le_of_ble_eq_true rfl⟩ dL_law_237 (fun H locs hP hD hS => ?_)
      have hP : va_P G.1 vwCl (List.flatten (lwW G u (uS (uS (uS (uS S 2 r.2.1) 4 r.2.2.1) 5 r.2.2.2) 20 r'.2))) H := hP
      have hD : va_D (fun q : Nat => s.heap.size ≤ q) (List.flatten (lwW G u (uS (uS (uS (uS S 2 r.2.1) 4 r.2.2.1) 5 r.2.2.2) 20 r'.2))) := hD
      refine lv_icmp_eq (tgt := 893) hx hb dL_law_240 (by decide) (fun _ => ?_) (fun c9 => absurd heq c9)
      exact tail (uS (uS (uS (uS S 2 r.2.1) 4 r.2.2.1) 5 r.2.2.2) 20 r'.2) hI2 H locs hP hD hS
    by_cases c3 : sv = 3
    · refine lv_tableIn (off := 213) (tgt := 245) hx hb dL_law_32 (by rw [c3]; decide) (by rw [c3]; decide) (by rw [c3] <;> rfl) (by decide) ?_
      obtain ⟨r, r', h1, h2, heq, hI2⟩ := t_place S  hI
      refine lv_aload_n hx hb dL_law_245 rfl (lv_at hl 1 rfl) ?_
      refine sl_V (Ws := lwW G u S) (q0 := 0) (ci := 10) (C := RX10) K (mX10_place l G FU (u 0 0) (u 1) (u 2) (u 3 0) (u 4) (u 5) (u 6 0) (u 7) (u 8) (u 9) (u 13 0) (u 14 0) (u 17 0) (u 10 0) (u 11 0) (u 12 0) (u 15 0) (u 16 0) (u 18 0) (u 19 0) (S 1) (S 2) (S 4) (S 5) (S 7) (S 8) (S 9) (S 14) (S 17) h1) tw_3_26 tw_1_1 tw_3_24 tw_3_25 tw_3_23 cdX10_place ⟨Nat.le_of_ble_eq_true rfl, Nat.le_of_ble_eq_true rfl⟩ hP hD hS [0, 1, 2, 3, 4, 5, 6, 7, 8, 9, 13, 14, 17] rfl rfl rfl rfl rfl rfl rfl hl.1 (Nat.le_of_ble_eq_true rfl) ⟨Nat.le_of_ble_eq_true rfl, Nat.le_of_ble_eq_true rfl⟩ dL_law_246 (fun H locs hP hD hS => ?_)
      have hP : va_P G.1 vwCl (List.flatten (lwW G u (uS (uS (uS (uS (uS (uS (uS (uS S 2 r.2.1) 4 r.2.2.1) 5 r.2.2.2.1) 7 r.2.2.2.2.1) 8 r.2.2.2.2.2.1) 9 r.2.2.2.2.2.2.1) 14 r.2.2.2.2.2.2.2.1) 17 r.2.2.2.2.2.2.2.2))) H := hP
      have hD : va_D (fun q : Nat => s.heap.size ≤ q) (List.flatten (lwW G u (uS (uS (uS (uS (uS (uS (uS (uS S 2 r.2.1) 4 r.2.2.1) 5 r.2.2.2.1) 7 r.2.2.2.2.1) 8 r.2.2.2.2.2.1) 9 r.2.2.2.2.2.2.1) 14 r.2.2.2.2.2.2.2.1) 17 r.2.2.2.2.2.2.2.2))) := hD
      refine lv_aload_n hx hb dL_law_249 rfl (lv_at hl 2 rfl) ?_
      refine sl_V (Ws := lwW G u (uS (uS (uS (uS (uS (uS (uS (uS S 2 r.2.1) 4 r.2.2.1) 5 r.2.2.2.1) 7 r.2.2.2.2.1) 8 r.2.2.2.2.2.1) 9 r.2.2.2.2.2.2.1) 14 r.2.2.2.2.2.2.2.1) 17 r.2.2.2.2.2.2.2.2)) (q0 := 75) (ci := 11) (C := RX11) K (mX11_place l G FU (u 20) (S 20) h2) tw_5_29 tw_1_12 tw_5_27 tw_5_28 tw_5_26 cdX11_place ⟨Nat.le_of_ble_eq_true rfl, Nat.le_of_ble_eq_true rfl⟩ hP hD hS [20] rfl rfl rfl rfl rfl rfl rfl hl.1 (Nat.le_of_ble_eq_true rfl) ⟨Nat.le_of_ble_eq_true rfl, Nat.le_of_ble_eq_true rfl⟩ dL_law_250 (fun H locs hP hD hS => ?_)
      have hP : va_P G.1 vwCl (List.flatten (lwW G u (uS (uS (uS (uS (uS (uS (uS (uS (uS S 2 r.2.1) 4 r.2.2.1) 5 r.2.2.2.1) 7 r.2.2.2.2.1) 8 r.2.2.2.2.2.1) 9 r.2.2.2.2.2.2.1) 14 r.2.2.2.2.2.2.2.1) 17 r.2.2.2.2.2.2.2.2) 20 r'.2))) H := hP
      have hD : va_D (fun q : Nat => s.heap.size ≤ q) (List.flatten (lwW G u (uS (uS (uS (uS (uS (uS (uS (uS (uS S 2 r.2.1) 4 r.2.2.1) 5 r.2.2.2.1) 7 r.2.2.2.2.1) 8 r.2.2.2.2.2.1) 9 r.2.2.2.2.2.2.1) 14 r.2.2.2.2.2.2.2.1) 17 r.2.2.2.2.2.2.2.2) 20 r'.2))) := hD
      refine lv_icmp_eq (tgt := 893) hx hb dL_law_253 (by decide) (fun _ => ?_) (fun c9 => absurd heq c9)
      exact tail (uS (uS (uS (uS (uS (uS (uS (uS (uS S 2 r.2.1) 4 r.2.2.1) 5 r.2.2.2.1) 7 r.2.2.2.2.1) 8 r.2.2.2.2.2.1) 9 r.2.2.2.2.2.2.1) 14 r.2.2.2.2.2.2.2.1) 17 r.2.2.2.2.2.2.2.2) 20 r'.2) hI2 H locs hP hD hS
    by_cases c4 : sv = 4
    · refine lv_tableIn (off := 226) (tgt := 258) hx hb dL_law_32 (by rw [c4]; decide) (by rw [c4]; decide) (by rw [c4] <;> rfl) (by decide) ?_
      obtain ⟨r, r', h1, h2, heq⟩ := t_body S (xs (x3 + 1).toNatClampNeg) (xs (x3 + 2).toNatClampNeg) hI
      refine lv_aload_n hx hb dL_law_258 rfl (lv_at hl 1 rfl) ?_
      refine lv_aload_n hx hb dL_law_259 rfl (lv_at hl 0 rfl) ?_
      refine lv_iload_n hx hb dL_law_260 rfl (lv_at hl 3 rfl) ?_
      refine lv_iconst (v := 1) hx hb dL_law_261 li_1 ?_
      refine lv_iadd hx hb dL_law_262 ?_
      refine va_sld hx hb hX hbl hbA hS (lw_ix hi5 hL ex 1 (by decide) rfl) dL_law_263 ?_
      refine lv_aload_n hx hb dL_law_264 rfl (lv_at hl 0 rfl) ?_
      refine lv_iload_n hx hb dL_law_265 rfl (lv_at hl 3 rfl) ?_
      refine lv_iconst (v := 2) hx hb dL_law_266 li_2 ?_
      refine lv_iadd hx hb dL_law_267 ?_
      refine va_sld hx hb hX hbl hbA hS (lw_ix hi5 hL ex 2 (by decide) rfl) dL_law_268 ?_
      refine sl_V (Ws := lwW G u S) (q0 := 0) (ci := 10) (C := RX10) K (mX10_body l G FU (u 0 0) (u 6 0) (u 7) (u 1 0) (u 2 0) (u 9 0) (u 10 0) (u 11 0) (u 12 0) (u 13 0) (u 8 0) (S 7) (xs (x3 + 1).toNatClampNeg) (xs (x3 + 2).toNatClampNeg) h1) tw_3_46 tw_1_1 tw_3_44 tw_3_45 tw_3_43 cdX10_body ⟨Nat.le_of_ble_eq_true rfl, Nat.le_of_ble_eq_true rfl⟩ hP hD hS [0, 6, 7] rfl rfl rfl rfl rfl rfl rfl hl.1 (Nat.le_of_ble_eq_true rfl) ⟨Nat.le_of_ble_eq_true rfl, Nat.le_of_ble_eq_true rfl⟩ dL_law_269 (fun H locs hP hD hS => ?_)
      have hP : va_P G.1 vwCl (List.flatten (lwW G u S)) H := hP
      have hD : va_D (fun q : Nat => s.heap.size ≤ q) (List.flatten (lwW G u S)) := hD
      refine lv_aload_n hx hb dL_law_272 rfl (lv_at hl 2 rfl) ?_
      refine lv_aload_n hx hb dL_law_273 rfl (lv_at hl 0 rfl) ?_
      refine lv_iload_n hx hb dL_law_274 rfl (lv_at hl 3 rfl) ?_
      refine lv_iconst (v := 1) hx hb dL_law_275 li_1 ?_
      refine lv_iadd hx hb dL_law_276 ?_
      refine va_sld hx hb hX hbl hbA hS (lw_ix hi5 hL ex 1 (by decide) rfl) dL_law_277 ?_
      refine lv_aload_n hx hb dL_law_278 rfl (lv_at hl 0 rfl) ?_
      refine lv_iload_n hx hb dL_law_279 rfl (lv_at hl 3 rfl) ?_
      refine lv_iconst (v := 2) hx hb dL_law_280 li_2 ?_
      refine lv_iadd hx hb dL_law_281 ?_
      refine va_sld hx hb hX hbl hbA hS (lw_ix hi5 hL ex 2 (by decide) rfl) dL_law_282 ?_
      refine sl_V (Ws := lwW G u S) (q0 := 75) (ci := 11) (C := RX11) K (mX11_body l G FU (u 20) (S 20) (xs (x3 + 1).toNatClampNeg) (xs (x3 + 2).toNatClampNeg) h2) tw_5_33 tw_1_12 tw_5_31 tw_5_32 tw_5_30 cdX11_body ⟨Nat.le_of_ble_eq_true rfl, Nat.le_of_ble_eq_true rfl⟩ hP hD hS [20] rfl rfl rfl rfl rfl rfl rfl hl.1 (Nat.le_of_ble_eq_true rfl) ⟨Nat.le_of_ble_eq_true rfl, Nat.le_of_ble_eq_true rfl⟩ dL_law_283 (fun H locs hP hD hS => ?_)
      have hP : va_P G.1 vwCl (List.flatten (lwW G u S)) H := hP
      have hD : va_D (fun q : Nat => s.heap.size ≤ q) (List.flatten (lwW G u S)) := hD
      refine lv_icmp_eq (tgt := 893) hx hb dL_law_286 (by decide) (fun _ => ?_) (fun c9 => absurd heq c9)
      exact tail S hI H locs hP hD hS
    by_cases c5 : sv = 5
    · refine lv_tableIn (off := 259) (tgt := 291) hx hb dL_law_32 (by rw [c5]; decide) (by rw [c5]; decide) (by rw [c5] <;> rfl) (by decide) ?_
      obtain ⟨r, r', h1, h2, heq⟩ := t_hill S (xs (x3 + 1).toNatClampNeg) (xs (x3 + 2).toNatClampNeg) hI
      refine lv_aload_n hx hb dL_law_291 rfl (lv_at hl 1 rfl) ?_
      refine lv_aload_n hx hb dL_law_292 rfl (lv_at hl 0 rfl) ?_
      refine lv_iload_n hx hb dL_law_293 rfl (lv_at hl 3 rfl) ?_
      refine lv_iconst (v := 1) hx hb dL_law_294 li_1 ?_
      refine lv_iadd hx hb dL_law_295 ?_
      refine va_sld hx hb hX hbl hbA hS (lw_ix hi5 hL ex 1 (by decide) rfl) dL_law_296 ?_
      refine lv_aload_n hx hb dL_law_297 rfl (lv_at hl 0 rfl) ?_
      refine lv_iload_n hx hb dL_law_298 rfl (lv_at hl 3 rfl) ?_
      refine lv_iconst (v := 2) hx hb dL_law_299 li_2 ?_
      refine lv_iadd hx hb dL_law_300 ?_
      refine va_sld hx hb hX hbl hbA hS (lw_ix hi5 hL ex 2 (by decide) rfl) dL_law_301 ?_
      refine sl_V (Ws := lwW G u S) (q0 := 0) (ci := 10) (C := RX10) K (mX10_hill l G FU (u 0 0) (u 6 0) (u 8) (u 1 0) (u 2 0) (u 9 0) (u 10 0) (u 11 0) (u 12 0) (u 13 0) (u 7 0) (S 8) (xs (x3 + 1).toNatClampNeg) (xs (x3 + 2).toNatClampNeg) h1) tw_3_66 tw_1_1 tw_3_64 tw_3_65 tw_3_63 cdX10_hill ⟨Nat.le_of_ble_eq_true rfl, Nat.le_of_ble_eq_true rfl⟩ hP hD hS [0, 6, 8] rfl rfl rfl rfl rfl rfl rfl hl.1 (Nat.le_of_ble_eq_true rfl) ⟨Nat.le_of_ble_eq_true rfl, Nat.le_of_ble_eq_true rfl⟩ dL_law_302 (fun H locs hP hD hS => ?_)
      have hP : va_P G.1 vwCl (List.flatten (lwW G u S)) H := hP
      have hD : va_D (fun q : Nat => s.heap.size ≤ q) (List.flatten (lwW G u S)) := hD
      refine lv_aload_n hx hb dL_law_305 rfl (lv_at hl 2 rfl) ?_
      refine lv_aload_n hx hb dL_law_306 rfl (lv_at hl 0 rfl) ?_
      refine lv_iload_n hx hb dL_law_307 rfl (lv_at hl 3 rfl) ?_
      refine lv_iconst (v := 1) hx hb dL_law_308 li_1 ?_
      refine lv_iadd hx hb dL_law_309 ?_
      refine va_sld hx hb hX hbl hbA hS (lw_ix hi5 hL ex 1 (by decide) rfl) dL_law_310 ?_
      refine lv_aload_n hx hb dL_law_311 rfl (lv_at hl 0 rfl) ?_
      refine lv_iload_n hx hb dL_law_312 rfl (lv_at hl 3 rfl) ?_
      refine lv_iconst (v := 2) hx hb dL_law_313 li_2 ?_
      refine lv_iadd hx hb dL_law_314 ?_
      refine va_sld hx hb hX hbl hbA hS (lw_ix hi5 hL ex 2 (by decide) rfl) dL_law_315 ?_
      refine sl_V (Ws := lwW G u S) (q0 := 75) (ci := 11) (C := RX11) K (mX11_hill l G FU (u 20) (S 20) (xs (x3 + 1).toNatClampNeg) (xs (x3 + 2).toNatClampNeg) h2) tw_5_47 tw_1_12 tw_5_45 tw_5_46 tw_5_44 cdX11_hill ⟨Nat.le_of_ble_eq_true rfl, Nat.le_of_ble_eq_true rfl⟩ hP hD hS [20] rfl rfl rfl rfl rfl rfl rfl hl.1 (Nat.le_of_ble_eq_true rfl) ⟨Nat.le_of_ble_eq_true rfl, Nat.le_of_ble_eq_true rfl⟩ dL_law_316 (fun H locs hP hD hS => ?_)
      have hP : va_P G.1 vwCl (List.flatten (lwW G u S)) H := hP
      have hD : va_D (fun q : Nat => s.heap.size ≤ q) (List.flatten (lwW G u S)) := hD
      refine lv_icmp_eq (tgt := 893) hx hb dL_law_319 (by decide) (fun _ => ?_) (fun c9 => absurd heq c9)
      exact tail S hI H locs hP hD hS
    by_cases c6 : sv = 6
    · refine lv_tableIn (off := 292) (tgt := 324) hx hb dL_law_32 (by rw [c6]; decide) (by rw [c6]; decide) (by rw [c6] <;> rfl) (by decide) ?_
      obtain ⟨r, r', h1, h2, heq, hI2⟩ := t_put S (xs (x3 + 1).toNatClampNeg) (xs (x3 + 2).toNatClampNeg) (xs (x3 + 3).toNatClampNeg) hI
      refine lv_aload_n hx hb dL_law_324 rfl (lv_at hl 1 rfl) ?_
      refine lv_aload_n hx hb dL_law_325 rfl (lv_at hl 0 rfl) ?_
      refine lv_iload_n hx hb dL_law_326 rfl (lv_at hl 3 rfl) ?_
      refine lv_iconst (v := 1) hx hb dL_law_327 li_1 ?_
      refine lv_iadd hx hb dL_law_328 ?_
      refine va_sld hx hb hX hbl hbA hS (lw_ix hi5 hL ex 1 (by decide) rfl) dL_law_329 ?_
      refine lv_aload_n hx hb dL_law_330 rfl (lv_at hl 0 rfl) ?_
      refine lv_iload_n hx hb dL_law_331 rfl (lv_at hl 3 rfl) ?_
      refine lv_iconst (v := 2) hx hb dL_law_332 li_2 ?_
      refine lv_iadd hx hb dL_law_333 ?_
      refine va_sld hx hb hX hbl hbA hS (lw_ix hi5 hL ex 2 (by decide) rfl) dL_law_334 ?_
      refine lv_aload_n hx hb dL_law_335 rfl (lv_at hl 0 rfl) ?_
      refine lv_iload_n hx hb dL_law_336 rfl (lv_at hl 3 rfl) ?_
      refine lv_iconst (v := 3) hx hb dL_law_337 li_3 ?_
      refine lv_iadd hx hb dL_law_338 ?_
      refine va_sld hx hb hX hbl hbA hS (lw_ix hi5 hL ex 3 (by decide) rfl) dL_law_339 ?_
      refine sl_V (Ws := lwW G u S) (q0 := 0) (ci := 10) (C := RX10) K (mX10_put l G FU (u 0 0) (u 6 0) (u 7) (u 9) (u 1 0) (u 2 0) (u 10 0) (u 11 0) (u 12 0) (u 13 0) (u 8 0) (S 7) (S 9) (xs (x3 + 1).toNatClampNeg) (xs (x3 + 2).toNatClampNeg) (xs (x3 + 3).toNatClampNeg) h1) tw_3_74 tw_1_1 tw_3_72 tw_3_73 tw_3_71 cdX10_put ⟨Nat.le_of_ble_eq_true rfl, Nat.le_of_ble_eq_true rfl⟩ hP hD hS [0, 6, 7, 9] rfl rfl rfl rfl rfl rfl rfl hl.1 (Nat.le_of_ble_eq_true rfl) ⟨Nat.le_of_ble_eq_true rfl, Nat.le_of_ble_eq_true rfl⟩ dL_law_340 (fun H locs hP hD hS => ?_)
      have hP : va_P G.1 vwCl (List.flatten (lwW G u (uS (uS S 7 r.2.1) 9 r.2.2))) H := hP
      have hD : va_D (fun q : Nat => s.heap.size ≤ q) (List.flatten (lwW G u (uS (uS S 7 r.2.1) 9 r.2.2))) := hD
      refine lv_aload_n hx hb dL_law_343 rfl (lv_at hl 2 rfl) ?_
      refine lv_aload_n hx hb dL_law_344 rfl (lv_at hl 0 rfl) ?_
      refine lv_iload_n hx hb dL_law_345 rfl (lv_at hl 3 rfl) ?_
      refine lv_iconst (v := 1) hx hb dL_law_346 li_1 ?_
      refine lv_iadd hx hb dL_law_347 ?_
      refine va_sld hx hb hX hbl hbA hS (lw_ix hi5 hL ex 1 (by decide) rfl) dL_law_348 ?_
      refine lv_aload_n hx hb dL_law_349 rfl (lv_at hl 0 rfl) ?_
      refine lv_iload_n hx hb dL_law_350 rfl (lv_at hl 3 rfl) ?_
      refine lv_iconst (v := 2) hx hb dL_law_351 li_2 ?_
      refine lv_iadd hx hb dL_law_352 ?_
      refine va_sld hx hb hX hbl hbA hS (lw_ix hi5 hL ex 2 (by decide) rfl) dL_law_353 ?_
      refine lv_aload_n hx hb dL_law_354 rfl (lv_at hl 0 rfl) ?_
      refine lv_iload_n hx hb dL_law_355 rfl (lv_at hl 3 rfl) ?_
      refine lv_iconst (v := 3) hx hb dL_law_356 li_3 ?_
      refine lv_iadd hx hb dL_law_357 ?_
      refine va_sld hx hb hX hbl hbA hS (lw_ix hi5 hL ex 3 (by decide) rfl) dL_law_358 ?_
      refine sl_V (Ws := lwW G u (uS (uS S 7 r.2.1) 9 r.2.2)) (q0 := 75) (ci := 11) (C := RX11) K (mX11_put l G FU (u 20) (S 20) (xs (x3 + 1).toNatClampNeg) (xs (x3 + 2).toNatClampNeg) (xs (x3 + 3).toNatClampNeg) h2) tw_5_56 tw_1_12 tw_5_54 tw_5_55 tw_5_53 cdX11_put ⟨Nat.le_of_ble_eq_true rfl, Nat.le_of_ble_eq_true rfl⟩ hP hD hS [20] rfl rfl rfl rfl rfl rfl rfl hl.1 (Nat.le_of_ble_eq_true rfl) ⟨Nat.le_of_ble_eq_true rfl, Nat.le_of_ble_eq_true rfl⟩ dL_law_359 (fun H locs hP hD hS => ?_)
      have hP : va_P G.1 vwCl (List.flatten (lwW G u (uS (uS (uS S 7 r.2.1) 9 r.2.2) 20 r'.2))) H := hP
      have hD : va_D (fun q : Nat => s.heap.size ≤ q) (List.flatten (lwW G u (uS (uS (uS S 7 r.2.1) 9 r.2.2) 20 r'.2))) := hD
      refine lv_icmp_eq (tgt := 893) hx hb dL_law_362 (by decide) (fun _ => ?_) (fun c9 => absurd heq c9)
      exact tail (uS (uS (uS S 7 r.2.1) 9 r.2.2) 20 r'.2) hI2 H locs hP hD hS
    by_cases c7 : sv = 7
    · refine lv_tableIn (off := 335) (tgt := 367) hx hb dL_law_32 (by rw [c7]; decide) (by rw [c7]; decide) (by rw [c7] <;> rfl) (by decide) ?_
      obtain ⟨r, r', h1, h2, heq, hI2⟩ := t_move S (xs (x3 + 1).toNatClampNeg) (xs (x3 + 2).toNatClampNeg) (xs (x3 + 3).toNatClampNeg) hI
      refine lv_aload_n hx hb dL_law_367 rfl (lv_at hl 1 rfl) ?_
      refine lv_aload_n hx hb dL_law_368 rfl (lv_at hl 0 rfl) ?_
      refine lv_iload_n hx hb dL_law_369 rfl (lv_at hl 3 rfl) ?_
      refine lv_iconst (v := 1) hx hb dL_law_370 li_1 ?_
      refine lv_iadd hx hb dL_law_371 ?_
      refine va_sld hx hb hX hbl hbA hS (lw_ix hi5 hL ex 1 (by decide) rfl) dL_law_372 ?_
      refine lv_aload_n hx hb dL_law_373 rfl (lv_at hl 0 rfl) ?_
      refine lv_iload_n hx hb dL_law_374 rfl (lv_at hl 3 rfl) ?_
      refine lv_iconst (v := 2) hx hb dL_law_375 li_2 ?_
      refine lv_iadd hx hb dL_law_376 ?_
      refine va_sld hx hb hX hbl hbA hS (lw_ix hi5 hL ex 2 (by decide) rfl) dL_law_377 ?_
      refine lv_aload_n hx hb dL_law_378 rfl (lv_at hl 0 rfl) ?_
      refine lv_iload_n hx hb dL_law_379 rfl (lv_at hl 3 rfl) ?_
      refine lv_iconst (v := 3) hx hb dL_law_380 li_3 ?_
      refine lv_iadd hx hb dL_law_381 ?_
      refine va_sld hx hb hX hbl hbA hS (lw_ix hi5 hL ex 3 (by decide) rfl) dL_law_382 ?_
      refine sl_V (Ws := lwW G u S) (q0 := 0) (ci := 10) (C := RX10) K (mX10_move l G FU (u 0 0) (u 6 0) (u 7) (u 9) (u 1 0) (u 2 0) (u 10 0) (u 11 0) (u 12 0) (u 13 0) (u 8 0) (S 7) (S 9) (xs (x3 + 1).toNatClampNeg) (xs (x3 + 2).toNatClampNeg) (xs (x3 + 3).toNatClampNeg) h1) tw_3_88 tw_1_1 tw_3_86 tw_3_87 tw_3_85 cdX10_move ⟨Nat.le_of_ble_eq_true rfl, Nat.le_of_ble_eq_true rfl⟩ hP hD hS [0, 6, 7, 9] rfl rfl rfl rfl rfl rfl rfl hl.1 (Nat.le_of_ble_eq_true rfl) ⟨Nat.le_of_ble_eq_true rfl, Nat.le_of_ble_eq_true rfl⟩ dL_law_383 (fun H locs hP hD hS => ?_)
      have hP : va_P G.1 vwCl (List.flatten (lwW G u (uS (uS S 7 r.2.1) 9 r.2.2))) H := hP
      have hD : va_D (fun q : Nat => s.heap.size ≤ q) (List.flatten (lwW G u (uS (uS S 7 r.2.1) 9 r.2.2))) := hD
      refine lv_aload_n hx hb dL_law_386 rfl (lv_at hl 2 rfl) ?_
      refine lv_aload_n hx hb dL_law_387 rfl (lv_at hl 0 rfl) ?_
      refine lv_iload_n hx hb dL_law_388 rfl (lv_at hl 3 rfl) ?_
      refine lv_iconst (v := 1) hx hb dL_law_389 li_1 ?_
      refine lv_iadd hx hb dL_law_390 ?_
      refine va_sld hx hb hX hbl hbA hS (lw_ix hi5 hL ex 1 (by decide) rfl) dL_law_391 ?_
      refine lv_aload_n hx hb dL_law_392 rfl (lv_at hl 0 rfl) ?_
      refine lv_iload_n hx hb dL_law_393 rfl (lv_at hl 3 rfl) ?_
      refine lv_iconst (v := 2) hx hb dL_law_394 li_2 ?_
      refine lv_iadd hx hb dL_law_395 ?_
      refine va_sld hx hb hX hbl hbA hS (lw_ix hi5 hL ex 2 (by decide) rfl) dL_law_396 ?_
      refine lv_aload_n hx hb dL_law_397 rfl (lv_at hl 0 rfl) ?_
      refine lv_iload_n hx hb dL_law_398 rfl (lv_at hl 3 rfl) ?_
      refine lv_iconst (v := 3) hx hb dL_law_399 li_3 ?_
      refine lv_iadd hx hb dL_law_400 ?_
      refine va_sld hx hb hX hbl hbA hS (lw_ix hi5 hL ex 3 (by decide) rfl) dL_law_401 ?_
      refine sl_V (Ws := lwW G u (uS (uS S 7 r.2.1) 9 r.2.2)) (q0 := 75) (ci := 11) (C := RX11) K (mX11_move l G FU (u 20) (S 20) (xs (x3 + 1).toNatClampNeg) (xs (x3 + 2).toNatClampNeg) (xs (x3 + 3).toNatClampNeg) h2) tw_5_73 tw_1_12 tw_5_71 tw_5_72 tw_5_70 cdX11_move ⟨Nat.le_of_ble_eq_true rfl, Nat.le_of_ble_eq_true rfl⟩ hP hD hS [20] rfl rfl rfl rfl rfl rfl rfl hl.1 (Nat.le_of_ble_eq_true rfl) ⟨Nat.le_of_ble_eq_true rfl, Nat.le_of_ble_eq_true rfl⟩ dL_law_402 (fun H locs hP hD hS => ?_)
      have hP : va_P G.1 vwCl (List.flatten (lwW G u (uS (uS (uS S 7 r.2.1) 9 r.2.2) 20 r'.2))) H := hP
      have hD : va_D (fun q : Nat => s.heap.size ≤ q) (List.flatten (lwW G u (uS (uS (uS S 7 r.2.1) 9 r.2.2) 20 r'.2))) := hD
      refine lv_icmp_eq (tgt := 893) hx hb dL_law_405 (by decide) (fun _ => ?_) (fun c9 => absurd heq c9)
      exact tail (uS (uS (uS S 7 r.2.1) 9 r.2.2) 20 r'.2) hI2 H locs hP hD hS
    by_cases c8 : sv = 8
    · refine lv_tableIn (off := 378) (tgt := 410) hx hb dL_law_32 (by rw [c8]; decide) (by rw [c8]; decide) (by rw [c8] <;> rfl) (by decide) ?_
      obtain ⟨r, r', h1, h2, heq, hI2⟩ := t_take S (xs (x3 + 1).toNatClampNeg) hI
      refine lv_aload_n hx hb dL_law_410 rfl (lv_at hl 1 rfl) ?_
      refine lv_aload_n hx hb dL_law_411 rfl (lv_at hl 0 rfl) ?_
      refine lv_iload_n hx hb dL_law_412 rfl (lv_at hl 3 rfl) ?_
      refine lv_iconst (v := 1) hx hb dL_law_413 li_1 ?_
      refine lv_iadd hx hb dL_law_414 ?_
      refine va_sld hx hb hX hbl hbA hS (lw_ix hi5 hL ex 1 (by decide) rfl) dL_law_415 ?_
      refine sl_V (Ws := lwW G u S) (q0 := 0) (ci := 10) (C := RX10) K (mX10_take l G FU (u 0 0) (u 6 0) (u 7) (u 9) (u 1 0) (u 2 0) (u 10 0) (u 11 0) (u 12 0) (u 13 0) (u 8 0) (S 7) (S 9) (xs (x3 + 1).toNatClampNeg) h1) tw_3_95 tw_1_1 tw_3_93 tw_3_94 tw_3_92 cdX10_take ⟨Nat.le_of_ble_eq_true rfl, Nat.le_of_ble_eq_true rfl⟩ hP hD hS [0, 6, 7, 9] rfl rfl rfl rfl rfl rfl rfl hl.1 (Nat.le_of_ble_eq_true rfl) ⟨Nat.le_of_ble_eq_true rfl, Nat.le_of_ble_eq_true rfl⟩ dL_law_416 (fun H locs hP hD hS => ?_)
      have hP : va_P G.1 vwCl (List.flatten (lwW G u (uS (uS S 7 r.2.1) 9 r.2.2))) H := hP
      have hD : va_D (fun q : Nat => s.heap.size ≤ q) (List.flatten (lwW G u (uS (uS S 7 r.2.1) 9 r.2.2))) := hD
      refine lv_aload_n hx hb dL_law_419 rfl (lv_at hl 2 rfl) ?_
      refine lv_aload_n hx hb dL_law_420 rfl (lv_at hl 0 rfl) ?_
      refine lv_iload_n hx hb dL_law_421 rfl (lv_at hl 3 rfl) ?_
      refine lv_iconst (v := 1) hx hb dL_law_422 li_1 ?_
      refine lv_iadd hx hb dL_law_423 ?_
      refine va_sld hx hb hX hbl hbA hS (lw_ix hi5 hL ex 1 (by decide) rfl) dL_law_424 ?_
      refine sl_V (Ws := lwW G u (uS (uS S 7 r.2.1) 9 r.2.2)) (q0 := 75) (ci := 11) (C := RX11) K (mX11_take l G FU (u 20) (S 20) (xs (x3 + 1).toNatClampNeg) h2) tw_5_80 tw_1_12 tw_5_78 tw_5_79 tw_5_77 cdX11_take ⟨Nat.le_of_ble_eq_true rfl, Nat.le_of_ble_eq_true rfl⟩ hP hD hS [20] rfl rfl rfl rfl rfl rfl rfl hl.1 (Nat.le_of_ble_eq_true rfl) ⟨Nat.le_of_ble_eq_true rfl, Nat.le_of_ble_eq_true rfl⟩ dL_law_425 (fun H locs hP hD hS => ?_)
      have hP : va_P G.1 vwCl (List.flatten (lwW G u (uS (uS (uS S 7 r.2.1) 9 r.2.2) 20 r'.2))) H := hP
      have hD : va_D (fun q : Nat => s.heap.size ≤ q) (List.flatten (lwW G u (uS (uS (uS S 7 r.2.1) 9 r.2.2) 20 r'.2))) := hD
      refine lv_icmp_eq (tgt := 893) hx hb dL_law_428 (by decide) (fun _ => ?_) (fun c9 => absurd heq c9)
      exact tail (uS (uS (uS S 7 r.2.1) 9 r.2.2) 20 r'.2) hI2 H locs hP hD hS
    by_cases c9 : sv = 9
    · refine lv_tableIn (off := 401) (tgt := 433) hx hb dL_law_32 (by rw [c9]; decide) (by rw [c9]; decide) (by rw [c9] <;> rfl) (by decide) ?_
      obtain ⟨r, r', h1, h2, heq, hI2⟩ := t_back S  hI
      refine lv_aload_n hx hb dL_law_433 rfl (lv_at hl 1 rfl) ?_
      refine sl_V (Ws := lwW G u S) (q0 := 0) (ci := 10) (C := RX10) K (mX10_back l G FU (u 0 0) (u 6 0) (u 7) (u 9) (u 1 0) (u 2 0) (u 10 0) (u 11 0) (u 12 0) (u 13 0) (u 8 0) (S 7) (S 9) h1) tw_3_104 tw_1_1 tw_3_102 tw_3_103 tw_3_101 cdX10_back ⟨Nat.le_of_ble_eq_true rfl, Nat.le_of_ble_eq_true rfl⟩ hP hD hS [0, 6, 7, 9] rfl rfl rfl rfl rfl rfl rfl hl.1 (Nat.le_of_ble_eq_true rfl) ⟨Nat.le_of_ble_eq_true rfl, Nat.le_of_ble_eq_true rfl⟩ dL_law_434 (fun H locs hP hD hS => ?_)
      have hP : va_P G.1 vwCl (List.flatten (lwW G u (uS (uS S 7 r.2.1) 9 r.2.2))) H := hP
      have hD : va_D (fun q : Nat => s.heap.size ≤ q) (List.flatten (lwW G u (uS (uS S 7 r.2.1) 9 r.2.2))) := hD
      refine lv_aload_n hx hb dL_law_437 rfl (lv_at hl 2 rfl) ?_
      refine sl_V (Ws := lwW G u (uS (uS S 7 r.2.1) 9 r.2.2)) (q0 := 75) (ci := 11) (C := RX11) K (mX11_back l G FU (u 20) (S 20) h2) tw_5_84 tw_1_12 tw_5_82 tw_5_83 tw_5_81 cdX11_back ⟨Nat.le_of_ble_eq_true rfl, Nat.le_of_ble_eq_true rfl⟩ hP hD hS [20] rfl rfl rfl rfl rfl rfl rfl hl.1 (Nat.le_of_ble_eq_true rfl) ⟨Nat.le_of_ble_eq_true rfl, Nat.le_of_ble_eq_true rfl⟩ dL_law_438 (fun H locs hP hD hS => ?_)
      have hP : va_P G.1 vwCl (List.flatten (lwW G u (uS (uS (uS S 7 r.2.1) 9 r.2.2) 20 r'.2))) H := hP
      have hD : va_D (fun q : Nat => s.heap.size ≤ q) (List.flatten (lwW G u (uS (uS (uS S 7 r.2.1) 9 r.2.2) 20 r'.2))) := hD
      refine lv_icmp_eq (tgt := 893) hx hb dL_law_441 (by decide) (fun _ => ?_) (fun c9 => absurd heq c9)
      exact tail (uS (uS (uS S 7 r.2.1) 9 r.2.2) 20 r'.2) hI2 H locs hP hD hS
    by_cases c10 : sv = 10
    · refine lv_tableIn (off := 414) (tgt := 446) hx hb dL_law_32 (by rw [c10]; decide) (by rw [c10]; decide) (by rw [c10] <;> rfl) (by decide) ?_
      obtain ⟨r, r', h1, h2, heq⟩ := t_shadow S (xs (x3 + 1).toNatClampNeg) (xs (x3 + 2).toNatClampNeg) hI
      refine lv_aload_n hx hb dL_law_446 rfl (lv_at hl 1 rfl) ?_
      refine lv_aload_n hx hb dL_law_447 rfl (lv_at hl 0 rfl) ?_
      refine lv_iload_n hx hb dL_law_448 rfl (lv_at hl 3 rfl) ?_
      refine lv_iconst (v := 1) hx hb dL_law_449 li_1 ?_
      refine lv_iadd hx hb dL_law_450 ?_
      refine va_sld hx hb hX hbl hbA hS (lw_ix hi5 hL ex 1 (by decide) rfl) dL_law_451 ?_
      refine lv_aload_n hx hb dL_law_452 rfl (lv_at hl 0 rfl) ?_
      refine lv_iload_n hx hb dL_law_453 rfl (lv_at hl 3 rfl) ?_
      refine lv_iconst (v := 2) hx hb dL_law_454 li_2 ?_
      refine lv_iadd hx hb dL_law_455 ?_
      refine va_sld hx hb hX hbl hbA hS (lw_ix hi5 hL ex 2 (by decide) rfl) dL_law_456 ?_
      refine sl_V (Ws := lwW G u S) (q0 := 0) (ci := 10) (C := RX10) K (mX10_shadow l G FU (u 0 0) (u 6 0) (u 7) (u 1 0) (u 2 0) (u 9 0) (u 10 0) (u 11 0) (u 12 0) (u 13 0) (u 8 0) (S 7) (xs (x3 + 1).toNatClampNeg) (xs (x3 + 2).toNatClampNeg) h1) tw_3_114 tw_1_1 tw_3_112 tw_3_113 tw_3_111 cdX10_shadow ⟨Nat.le_of_ble_eq_true rfl, Nat.le_of_ble_eq_true rfl⟩ hP hD hS [0, 6, 7] rfl rfl rfl rfl rfl rfl rfl hl.1 (Nat.le_of_ble_eq_true rfl) ⟨Nat.le_of_ble_eq_true rfl, Nat.le_of_ble_eq_true rfl⟩ dL_law_457 (fun H locs hP hD hS => ?_)
      have hP : va_P G.1 vwCl (List.flatten (lwW G u S)) H := hP
      have hD : va_D (fun q : Nat => s.heap.size ≤ q) (List.flatten (lwW G u S)) := hD
      refine lv_aload_n hx hb dL_law_460 rfl (lv_at hl 2 rfl) ?_
      refine lv_aload_n hx hb dL_law_461 rfl (lv_at hl 0 rfl) ?_
      refine lv_iload_n hx hb dL_law_462 rfl (lv_at hl 3 rfl) ?_
      refine lv_iconst (v := 1) hx hb dL_law_463 li_1 ?_
      refine lv_iadd hx hb dL_law_464 ?_
      refine va_sld hx hb hX hbl hbA hS (lw_ix hi5 hL ex 1 (by decide) rfl) dL_law_465 ?_
      refine lv_aload_n hx hb dL_law_466 rfl (lv_at hl 0 rfl) ?_
      refine lv_iload_n hx hb dL_law_467 rfl (lv_at hl 3 rfl) ?_
      refine lv_iconst (v := 2) hx hb dL_law_468 li_2 ?_
      refine lv_iadd hx hb dL_law_469 ?_
      refine va_sld hx hb hX hbl hbA hS (lw_ix hi5 hL ex 2 (by decide) rfl) dL_law_470 ?_
      refine sl_V (Ws := lwW G u S) (q0 := 75) (ci := 11) (C := RX11) K (mX11_shadow l G FU (u 20) (S 20) (xs (x3 + 1).toNatClampNeg) (xs (x3 + 2).toNatClampNeg) h2) tw_5_88 tw_1_12 tw_5_86 tw_5_87 tw_5_85 cdX11_shadow ⟨Nat.le_of_ble_eq_true rfl, Nat.le_of_ble_eq_true rfl⟩ hP hD hS [20] rfl rfl rfl rfl rfl rfl rfl hl.1 (Nat.le_of_ble_eq_true rfl) ⟨Nat.le_of_ble_eq_true rfl, Nat.le_of_ble_eq_true rfl⟩ dL_law_471 (fun H locs hP hD hS => ?_)
      have hP : va_P G.1 vwCl (List.flatten (lwW G u S)) H := hP
      have hD : va_D (fun q : Nat => s.heap.size ≤ q) (List.flatten (lwW G u S)) := hD
      refine lv_icmp_eq (tgt := 893) hx hb dL_law_474 (by decide) (fun _ => ?_) (fun c9 => absurd heq c9)
      exact tail S hI H locs hP hD hS
    by_cases c11 : sv = 11
    · refine lv_tableIn (off := 447) (tgt := 479) hx hb dL_law_32 (by rw [c11]; decide) (by rw [c11]; decide) (by rw [c11] <;> rfl) (by decide) ?_
      obtain ⟨r, r', h1, h2, heq⟩ := t_dark S (xs (x3 + 1).toNatClampNeg) (xs (x3 + 2).toNatClampNeg) hI
      refine lv_aload_n hx hb dL_law_479 rfl (lv_at hl 1 rfl) ?_
      refine lv_aload_n hx hb dL_law_480 rfl (lv_at hl 0 rfl) ?_
      refine lv_iload_n hx hb dL_law_481 rfl (lv_at hl 3 rfl) ?_
      refine lv_iconst (v := 1) hx hb dL_law_482 li_1 ?_
      refine lv_iadd hx hb dL_law_483 ?_
      refine va_sld hx hb hX hbl hbA hS (lw_ix hi5 hL ex 1 (by decide) rfl) dL_law_484 ?_
      refine lv_aload_n hx hb dL_law_485 rfl (lv_at hl 0 rfl) ?_
      refine lv_iload_n hx hb dL_law_486 rfl (lv_at hl 3 rfl) ?_
      refine lv_iconst (v := 2) hx hb dL_law_487 li_2 ?_
      refine lv_iadd hx hb dL_law_488 ?_
      refine va_sld hx hb hX hbl hbA hS (lw_ix hi5 hL ex 2 (by decide) rfl) dL_law_489 ?_
      refine sl_V (Ws := lwW G u S) (q0 := 0) (ci := 10) (C := RX10) K (mX10_dark l G FU (u 0 0) (u 6 0) (u 7) (u 8) (u 1 0) (u 2 0) (u 9 0) (u 10 0) (u 11 0) (u 12 0) (u 13 0) (S 7) (S 8) (xs (x3 + 1).toNatClampNeg) (xs (x3 + 2).toNatClampNeg) h1) tw_3_122 tw_1_1 tw_3_120 tw_3_121 tw_3_119 cdX10_dark ⟨Nat.le_of_ble_eq_true rfl, Nat.le_of_ble_eq_true rfl⟩ hP hD hS [0, 6, 7, 8] rfl rfl rfl rfl rfl rfl rfl hl.1 (Nat.le_of_ble_eq_true rfl) ⟨Nat.le_of_ble_eq_true rfl, Nat.le_of_ble_eq_true rfl⟩ dL_law_490 (fun H locs hP hD hS => ?_)
      have hP : va_P G.1 vwCl (List.flatten (lwW G u S)) H := hP
      have hD : va_D (fun q : Nat => s.heap.size ≤ q) (List.flatten (lwW G u S)) := hD
      refine lv_aload_n hx hb dL_law_493 rfl (lv_at hl 2 rfl) ?_
      refine lv_aload_n hx hb dL_law_494 rfl (lv_at hl 0 rfl) ?_
      refine lv_iload_n hx hb dL_law_495 rfl (lv_at hl 3 rfl) ?_
      refine lv_iconst (v := 1) hx hb dL_law_496 li_1 ?_
      refine lv_iadd hx hb dL_law_497 ?_
      refine va_sld hx hb hX hbl hbA hS (lw_ix hi5 hL ex 1 (by decide) rfl) dL_law_498 ?_
      refine lv_aload_n hx hb dL_law_499 rfl (lv_at hl 0 rfl) ?_
      refine lv_iload_n hx hb dL_law_500 rfl (lv_at hl 3 rfl) ?_
      refine lv_iconst (v := 2) hx hb dL_law_501 li_2 ?_
      refine lv_iadd hx hb dL_law_502 ?_
      refine va_sld hx hb hX hbl hbA hS (lw_ix hi5 hL ex 2 (by decide) rfl) dL_law_503 ?_
      refine sl_V (Ws := lwW G u S) (q0 := 75) (ci := 11) (C := RX11) K (mX11_dark l G FU (u 20) (S 20) (xs (x3 + 1).toNatClampNeg) (xs (x3 + 2).toNatClampNeg) h2) tw_5_99 tw_1_12 tw_5_97 tw_5_98 tw_5_96 cdX11_dark ⟨Nat.le_of_ble_eq_true rfl, Nat.le_of_ble_eq_true rfl⟩ hP hD hS [20] rfl rfl rfl rfl rfl rfl rfl hl.1 (Nat.le_of_ble_eq_true rfl) ⟨Nat.le_of_ble_eq_true rfl, Nat.le_of_ble_eq_true rfl⟩ dL_law_504 (fun H locs hP hD hS => ?_)
      have hP : va_P G.1 vwCl (List.flatten (lwW G u S)) H := hP
      have hD : va_D (fun q : Nat => s.heap.size ≤ q) (List.flatten (lwW G u S)) := hD
      refine lv_icmp_eq (tgt := 893) hx hb dL_law_507 (by decide) (fun _ => ?_) (fun c9 => absurd heq c9)
      exact tail S hI H locs hP hD hS
    by_cases c12 : sv = 12
    · refine lv_tableIn (off := 480) (tgt := 512) hx hb dL_law_32 (by rw [c12]; decide) (by rw [c12]; decide) (by rw [c12] <;> rfl) (by decide) ?_
      obtain ⟨r, r', h1, h2, heq, hI2⟩ := t_runs S (xs (x3 + 1).toNatClampNeg) (xs (x3 + 2).toNatClampNeg) hI
      refine lv_aload_n hx hb dL_law_512 rfl (lv_at hl 1 rfl) ?_
      refine lv_aload_n hx hb dL_law_513 rfl (lv_at hl 0 rfl) ?_
      refine lv_iload_n hx hb dL_law_514 rfl (lv_at hl 3 rfl) ?_
      refine lv_iconst (v := 1) hx hb dL_law_515 li_1 ?_
      refine lv_iadd hx hb dL_law_516 ?_
      refine va_sld hx hb hX hbl hbA hS (lw_ix hi5 hL ex 1 (by decide) rfl) dL_law_517 ?_
      refine lv_aload_n hx hb dL_law_518 rfl (lv_at hl 0 rfl) ?_
      refine lv_iload_n hx hb dL_law_519 rfl (lv_at hl 3 rfl) ?_
      refine lv_iconst (v := 2) hx hb dL_law_520 li_2 ?_
      refine lv_iadd hx hb dL_law_521 ?_
      refine va_sld hx hb hX hbl hbA hS (lw_ix hi5 hL ex 2 (by decide) rfl) dL_law_522 ?_
      refine sl_V (Ws := lwW G u S) (q0 := 0) (ci := 10) (C := RX10) K (mX10_runs l G FU (u 0 0) (u 6 0) (u 7) (u 8) (u 10) (u 1 0) (u 2 0) (u 9 0) (u 11 0) (u 12 0) (u 13 0) (S 7) (S 8) (S 10) (xs (x3 + 1).toNatClampNeg) (xs (x3 + 2).toNatClampNeg) h1) tw_3_145 tw_1_1 tw_3_143 tw_3_144 tw_3_142 cdX10_runs ⟨Nat.le_of_ble_eq_true rfl, Nat.le_of_ble_eq_true rfl⟩ hP hD hS [0, 6, 7, 8, 10] rfl rfl rfl rfl rfl rfl rfl hl.1 (Nat.le_of_ble_eq_true rfl) ⟨Nat.le_of_ble_eq_true rfl, Nat.le_of_ble_eq_true rfl⟩ dL_law_523 (fun H locs hP hD hS => ?_)
      have hP : va_P G.1 vwCl (List.flatten (lwW G u (uS S 10 r.2))) H := hP
      have hD : va_D (fun q : Nat => s.heap.size ≤ q) (List.flatten (lwW G u (uS S 10 r.2))) := hD
      refine lv_aload_n hx hb dL_law_526 rfl (lv_at hl 2 rfl) ?_
      refine lv_aload_n hx hb dL_law_527 rfl (lv_at hl 0 rfl) ?_
      refine lv_iload_n hx hb dL_law_528 rfl (lv_at hl 3 rfl) ?_
      refine lv_iconst (v := 1) hx hb dL_law_529 li_1 ?_
      refine lv_iadd hx hb dL_law_530 ?_
      refine va_sld hx hb hX hbl hbA hS (lw_ix hi5 hL ex 1 (by decide) rfl) dL_law_531 ?_
      refine lv_aload_n hx hb dL_law_532 rfl (lv_at hl 0 rfl) ?_
      refine lv_iload_n hx hb dL_law_533 rfl (lv_at hl 3 rfl) ?_
      refine lv_iconst (v := 2) hx hb dL_law_534 li_2 ?_
      refine lv_iadd hx hb dL_law_535 ?_
      refine va_sld hx hb hX hbl hbA hS (lw_ix hi5 hL ex 2 (by decide) rfl) dL_law_536 ?_
      refine sl_V (Ws := lwW G u (uS S 10 r.2)) (q0 := 75) (ci := 11) (C := RX11) K (mX11_runs l G FU (u 20) (S 20) (xs (x3 + 1).toNatClampNeg) (xs (x3 + 2).toNatClampNeg) h2) tw_5_114 tw_1_12 tw_5_112 tw_5_113 tw_5_111 cdX11_runs ⟨Nat.le_of_ble_eq_true rfl, Nat.le_of_ble_eq_true rfl⟩ hP hD hS [20] rfl rfl rfl rfl rfl rfl rfl hl.1 (Nat.le_of_ble_eq_true rfl) ⟨Nat.le_of_ble_eq_true rfl, Nat.le_of_ble_eq_true rfl⟩ dL_law_537 (fun H locs hP hD hS => ?_)
      have hP : va_P G.1 vwCl (List.flatten (lwW G u (uS (uS S 10 r.2) 20 r'.2))) H := hP
      have hD : va_D (fun q : Nat => s.heap.size ≤ q) (List.flatten (lwW G u (uS (uS S 10 r.2) 20 r'.2))) := hD
      refine lv_icmp_eq (tgt := 893) hx hb dL_law_540 (by decide) (fun _ => ?_) (fun c9 => absurd heq c9)
      exact tail (uS (uS S 10 r.2) 20 r'.2) hI2 H locs hP hD hS
    by_cases c13 : sv = 13
    · refine lv_tableIn (off := 513) (tgt := 545) hx hb dL_law_32 (by rw [c13]; decide) (by rw [c13]; decide) (by rw [c13] <;> rfl) (by decide) ?_
      obtain ⟨r, r', h1, h2, heq, hI2⟩ := t_run S (xs (x3 + 1).toNatClampNeg) (xs (x3 + 2).toNatClampNeg) (xs (x3 + 3).toNatClampNeg) (xs (x3 + 4).toNatClampNeg) hI
      refine lv_aload_n hx hb dL_law_545 rfl (lv_at hl 1 rfl) ?_
      refine lv_aload_n hx hb dL_law_546 rfl (lv_at hl 0 rfl) ?_
      refine lv_iload_n hx hb dL_law_547 rfl (lv_at hl 3 rfl) ?_
      refine lv_iconst (v := 1) hx hb dL_law_548 li_1 ?_
      refine lv_iadd hx hb dL_law_549 ?_
      refine va_sld hx hb hX hbl hbA hS (lw_ix hi5 hL ex 1 (by decide) rfl) dL_law_550 ?_
      refine lv_aload_n hx hb dL_law_551 rfl (lv_at hl 0 rfl) ?_
      refine lv_iload_n hx hb dL_law_552 rfl (lv_at hl 3 rfl) ?_
      refine lv_iconst (v := 2) hx hb dL_law_553 li_2 ?_
      refine lv_iadd hx hb dL_law_554 ?_
      refine va_sld hx hb hX hbl hbA hS (lw_ix hi5 hL ex 2 (by decide) rfl) dL_law_555 ?_
      refine lv_aload_n hx hb dL_law_556 rfl (lv_at hl 0 rfl) ?_
      refine lv_iload_n hx hb dL_law_557 rfl (lv_at hl 3 rfl) ?_
      refine lv_iconst (v := 3) hx hb dL_law_558 li_3 ?_
      refine lv_iadd hx hb dL_law_559 ?_
      refine va_sld hx hb hX hbl hbA hS (lw_ix hi5 hL ex 3 (by decide) rfl) dL_law_560 ?_
      refine lv_aload_n hx hb dL_law_561 rfl (lv_at hl 0 rfl) ?_
      refine lv_iload_n hx hb dL_law_562 rfl (lv_at hl 3 rfl) ?_
      refine lv_iconst (v := 4) hx hb dL_law_563 li_4 ?_
      refine lv_iadd hx hb dL_law_564 ?_
      refine va_sld hx hb hX hbl hbA hS (lw_ix hi5 hL ex 4 (by decide) rfl) dL_law_565 ?_
      refine sl_V (Ws := lwW G u S) (q0 := 0) (ci := 10) (C := RX10) K (mX10_run l G FU (u 0 0) (u 6 0) (u 7) (u 8) (u 10) (u 1 0) (u 2 0) (u 9 0) (u 11 0) (u 12 0) (u 13 0) (S 7) (S 8) (S 10) (xs (x3 + 1).toNatClampNeg) (xs (x3 + 2).toNatClampNeg) (xs (x3 + 3).toNatClampNeg) (xs (x3 + 4).toNatClampNeg) h1) tw_3_166 tw_1_1 tw_3_164 tw_3_165 tw_3_163 cdX10_run ⟨Nat.le_of_ble_eq_true rfl, Nat.le_of_ble_eq_true rfl⟩ hP hD hS [0, 6, 7, 8, 10] rfl rfl rfl rfl rfl rfl rfl hl.1 (Nat.le_of_ble_eq_true rfl) ⟨Nat.le_of_ble_eq_true rfl, Nat.le_of_ble_eq_true rfl⟩ dL_law_566 (fun H locs hP hD hS => ?_)
      have hP : va_P G.1 vwCl (List.flatten (lwW G u (uS S 10 r.2))) H := hP
      have hD : va_D (fun q : Nat => s.heap.size ≤ q) (List.flatten (lwW G u (uS S 10 r.2))) := hD
      refine lv_aload_n hx hb dL_law_569 rfl (lv_at hl 2 rfl) ?_
      refine lv_aload_n hx hb dL_law_570 rfl (lv_at hl 0 rfl) ?_
      refine lv_iload_n hx hb dL_law_571 rfl (lv_at hl 3 rfl) ?_
      refine lv_iconst (v := 1) hx hb dL_law_572 li_1 ?_
      refine lv_iadd hx hb dL_law_573 ?_
      refine va_sld hx hb hX hbl hbA hS (lw_ix hi5 hL ex 1 (by decide) rfl) dL_law_574 ?_
      refine lv_aload_n hx hb dL_law_575 rfl (lv_at hl 0 rfl) ?_
      refine lv_iload_n hx hb dL_law_576 rfl (lv_at hl 3 rfl) ?_
      refine lv_iconst (v := 2) hx hb dL_law_577 li_2 ?_
      refine lv_iadd hx hb dL_law_578 ?_
      refine va_sld hx hb hX hbl hbA hS (lw_ix hi5 hL ex 2 (by decide) rfl) dL_law_579 ?_
      refine lv_aload_n hx hb dL_law_580 rfl (lv_at hl 0 rfl) ?_
      refine lv_iload_n hx hb dL_law_581 rfl (lv_at hl 3 rfl) ?_
      refine lv_iconst (v := 3) hx hb dL_law_582 li_3 ?_
      refine lv_iadd hx hb dL_law_583 ?_
      refine va_sld hx hb hX hbl hbA hS (lw_ix hi5 hL ex 3 (by decide) rfl) dL_law_584 ?_
      refine lv_aload_n hx hb dL_law_585 rfl (lv_at hl 0 rfl) ?_
      refine lv_iload_n hx hb dL_law_586 rfl (lv_at hl 3 rfl) ?_
      refine lv_iconst (v := 4) hx hb dL_law_587 li_4 ?_
      refine lv_iadd hx hb dL_law_588 ?_
      refine va_sld hx hb hX hbl hbA hS (lw_ix hi5 hL ex 4 (by decide) rfl) dL_law_589 ?_
      refine sl_V (Ws := lwW G u (uS S 10 r.2)) (q0 := 75) (ci := 11) (C := RX11) K (mX11_run l G FU (u 20) (S 20) (xs (x3 + 1).toNatClampNeg) (xs (x3 + 2).toNatClampNeg) (xs (x3 + 3).toNatClampNeg) (xs (x3 + 4).toNatClampNeg) h2) tw_5_122 tw_1_12 tw_5_120 tw_5_121 tw_5_119 cdX11_run ⟨Nat.le_of_ble_eq_true rfl, Nat.le_of_ble_eq_true rfl⟩ hP hD hS [20] rfl rfl rfl rfl rfl rfl rfl hl.1 (Nat.le_of_ble_eq_true rfl) ⟨Nat.le_of_ble_eq_true rfl, Nat.le_of_ble_eq_true rfl⟩ dL_law_590 (fun H locs hP hD hS => ?_)
      have hP : va_P G.1 vwCl (List.flatten (lwW G u (uS (uS S 10 r.2) 20 r'.2))) H := hP
      have hD : va_D (fun q : Nat => s.heap.size ≤ q) (List.flatten (lwW G u (uS (uS S 10 r.2) 20 r'.2))) := hD
      refine lv_icmp_eq (tgt := 893) hx hb dL_law_593 (by decide) (fun _ => ?_) (fun c9 => absurd heq c9)
      exact tail (uS (uS S 10 r.2) 20 r'.2) hI2 H locs hP hD hS
    by_cases c14 : sv = 14
    · refine lv_tableIn (off := 566) (tgt := 598) hx hb dL_law_32 (by rw [c14]; decide) (by rw [c14]; decide) (by rw [c14] <;> rfl) (by decide) ?_
      obtain ⟨r, r', h1, h2, heq⟩ := t_alone S (xs (x3 + 1).toNatClampNeg) hI
      refine lv_aload_n hx hb dL_law_598 rfl (lv_at hl 1 rfl) ?_
      refine lv_aload_n hx hb dL_law_599 rfl (lv_at hl 0 rfl) ?_
      refine lv_iload_n hx hb dL_law_600 rfl (lv_at hl 3 rfl) ?_
      refine lv_iconst (v := 1) hx hb dL_law_601 li_1 ?_
      refine lv_iadd hx hb dL_law_602 ?_
      refine va_sld hx hb hX hbl hbA hS (lw_ix hi5 hL ex 1 (by decide) rfl) dL_law_603 ?_
      refine sl_V (Ws := lwW G u S) (q0 := 0) (ci := 10) (C := RX10) K (mX10_alone l G FU (u 0 0) (u 6 0) (u 7) (u 8) (u 1 0) (u 2 0) (u 9 0) (u 10 0) (u 11 0) (u 12 0) (u 13 0) (S 7) (S 8) (xs (x3 + 1).toNatClampNeg) h1) tw_3_170 tw_1_1 tw_3_168 tw_3_169 tw_3_167 cdX10_alone ⟨Nat.le_of_ble_eq_true rfl, Nat.le_of_ble_eq_true rfl⟩ hP hD hS [0, 6, 7, 8] rfl rfl rfl rfl rfl rfl rfl hl.1 (Nat.le_of_ble_eq_true rfl) ⟨Nat.le_of_ble_eq_true rfl, Nat.le_of_ble_eq_true rfl⟩ dL_law_604 (fun H locs hP hD hS => ?_)
      have hP : va_P G.1 vwCl (List.flatten (lwW G u S)) H := hP
      have hD : va_D (fun q : Nat => s.heap.size ≤ q) (List.flatten (lwW G u S)) := hD
      refine lv_aload_n hx hb dL_law_607 rfl (lv_at hl 2 rfl) ?_
      refine lv_aload_n hx hb dL_law_608 rfl (lv_at hl 0 rfl) ?_
      refine lv_iload_n hx hb dL_law_609 rfl (lv_at hl 3 rfl) ?_
      refine lv_iconst (v := 1) hx hb dL_law_610 li_1 ?_
      refine lv_iadd hx hb dL_law_611 ?_
      refine va_sld hx hb hX hbl hbA hS (lw_ix hi5 hL ex 1 (by decide) rfl) dL_law_612 ?_
      refine sl_V (Ws := lwW G u S) (q0 := 75) (ci := 11) (C := RX11) K (mX11_alone l G FU (u 20) (S 20) (xs (x3 + 1).toNatClampNeg) h2) tw_5_127 tw_1_12 tw_5_125 tw_5_126 tw_5_124 cdX11_alone ⟨Nat.le_of_ble_eq_true rfl, Nat.le_of_ble_eq_true rfl⟩ hP hD hS [20] rfl rfl rfl rfl rfl rfl rfl hl.1 (Nat.le_of_ble_eq_true rfl) ⟨Nat.le_of_ble_eq_true rfl, Nat.le_of_ble_eq_true rfl⟩ dL_law_613 (fun H locs hP hD hS => ?_)
      have hP : va_P G.1 vwCl (List.flatten (lwW G u S)) H := hP
      have hD : va_D (fun q : Nat => s.heap.size ≤ q) (List.flatten (lwW G u S)) := hD
      refine lv_icmp_eq (tgt := 893) hx hb dL_law_616 (by decide) (fun _ => ?_) (fun c9 => absurd heq c9)
      exact tail S hI H locs hP hD hS
    by_cases c15 : sv = 15
    · refine lv_tableIn (off := 589) (tgt := 621) hx hb dL_law_32 (by rw [c15]; decide) (by rw [c15]; decide) (by rw [c15] <;> rfl) (by decide) ?_
      obtain ⟨r, r', h1, h2, heq, hI2⟩ := t_counted S (xs (x3 + 1).toNatClampNeg) (xs (x3 + 2).toNatClampNeg) hI
      refine lv_aload_n hx hb dL_law_621 rfl (lv_at hl 1 rfl) ?_
      refine lv_aload_n hx hb dL_law_622 rfl (lv_at hl 0 rfl) ?_
      refine lv_iload_n hx hb dL_law_623 rfl (lv_at hl 3 rfl) ?_
      refine lv_iconst (v := 1) hx hb dL_law_624 li_1 ?_
      refine lv_iadd hx hb dL_law_625 ?_
      refine va_sld hx hb hX hbl hbA hS (lw_ix hi5 hL ex 1 (by decide) rfl) dL_law_626 ?_
      refine lv_aload_n hx hb dL_law_627 rfl (lv_at hl 0 rfl) ?_
      refine lv_iload_n hx hb dL_law_628 rfl (lv_at hl 3 rfl) ?_
      refine lv_iconst (v := 2) hx hb dL_law_629 li_2 ?_
      refine lv_iadd hx hb dL_law_630 ?_
      refine va_sld hx hb hX hbl hbA hS (lw_ix hi5 hL ex 2 (by decide) rfl) dL_law_631 ?_
      refine sl_V (Ws := lwW G u S) (q0 := 0) (ci := 10) (C := RX10) K (mX10_counted l G FU (u 0 0) (u 6 0) (u 7) (u 8) (u 10) (u 1 0) (u 2 0) (u 9 0) (u 11 0) (u 12 0) (u 13 0) (S 7) (S 8) (S 10) (xs (x3 + 1).toNatClampNeg) (xs (x3 + 2).toNatClampNeg) h1) tw_3_186 tw_1_1 tw_3_184 tw_3_185 tw_3_183 cdX10_counted ⟨Nat.le_of_ble_eq_true rfl, Nat.le_of_ble_eq_true rfl⟩ hP hD hS [0, 6, 7, 8, 10] rfl rfl rfl rfl rfl rfl rfl hl.1 (Nat.le_of_ble_eq_true rfl) ⟨Nat.le_of_ble_eq_true rfl, Nat.le_of_ble_eq_true rfl⟩ dL_law_632 (fun H locs hP hD hS => ?_)
      have hP : va_P G.1 vwCl (List.flatten (lwW G u (uS S 10 r.2))) H := hP
      have hD : va_D (fun q : Nat => s.heap.size ≤ q) (List.flatten (lwW G u (uS S 10 r.2))) := hD
      refine lv_aload_n hx hb dL_law_635 rfl (lv_at hl 2 rfl) ?_
      refine lv_aload_n hx hb dL_law_636 rfl (lv_at hl 0 rfl) ?_
      refine lv_iload_n hx hb dL_law_637 rfl (lv_at hl 3 rfl) ?_
      refine lv_iconst (v := 1) hx hb dL_law_638 li_1 ?_
      refine lv_iadd hx hb dL_law_639 ?_
      refine va_sld hx hb hX hbl hbA hS (lw_ix hi5 hL ex 1 (by decide) rfl) dL_law_640 ?_
      refine lv_aload_n hx hb dL_law_641 rfl (lv_at hl 0 rfl) ?_
      refine lv_iload_n hx hb dL_law_642 rfl (lv_at hl 3 rfl) ?_
      refine lv_iconst (v := 2) hx hb dL_law_643 li_2 ?_
      refine lv_iadd hx hb dL_law_644 ?_
      refine va_sld hx hb hX hbl hbA hS (lw_ix hi5 hL ex 2 (by decide) rfl) dL_law_645 ?_
      refine sl_V (Ws := lwW G u (uS S 10 r.2)) (q0 := 75) (ci := 11) (C := RX11) K (mX11_counted l G FU (u 20) (S 20) (xs (x3 + 1).toNatClampNeg) (xs (x3 + 2).toNatClampNeg) h2) tw_5_131 tw_1_12 tw_5_129 tw_5_130 tw_5_128 cdX11_counted ⟨Nat.le_of_ble_eq_true rfl, Nat.le_of_ble_eq_true rfl⟩ hP hD hS [20] rfl rfl rfl rfl rfl rfl rfl hl.1 (Nat.le_of_ble_eq_true rfl) ⟨Nat.le_of_ble_eq_true rfl, Nat.le_of_ble_eq_true rfl⟩ dL_law_646 (fun H locs hP hD hS => ?_)
      have hP : va_P G.1 vwCl (List.flatten (lwW G u (uS (uS S 10 r.2) 20 r'.2))) H := hP
      have hD : va_D (fun q : Nat => s.heap.size ≤ q) (List.flatten (lwW G u (uS (uS S 10 r.2) 20 r'.2))) := hD
      refine lv_icmp_eq (tgt := 893) hx hb dL_law_649 (by decide) (fun _ => ?_) (fun c9 => absurd heq c9)
      exact tail (uS (uS S 10 r.2) 20 r'.2) hI2 H locs hP hD hS
    by_cases c16 : sv = 16
    · refine lv_tableIn (off := 622) (tgt := 654) hx hb dL_law_32 (by rw [c16]; decide) (by rw [c16]; decide) (by rw [c16] <;> rfl) (by decide) ?_
      obtain ⟨r, r', h1, h2, heq, hI2⟩ := t_best S (xs (x3 + 1).toNatClampNeg) hI
      refine lv_aload_n hx hb dL_law_654 rfl (lv_at hl 1 rfl) ?_
      refine lv_aload_n hx hb dL_law_655 rfl (lv_at hl 0 rfl) ?_
      refine lv_iload_n hx hb dL_law_656 rfl (lv_at hl 3 rfl) ?_
      refine lv_iconst (v := 1) hx hb dL_law_657 li_1 ?_
      refine lv_iadd hx hb dL_law_658 ?_
      refine va_sld hx hb hX hbl hbA hS (lw_ix hi5 hL ex 1 (by decide) rfl) dL_law_659 ?_
      refine sl_V (Ws := lwW G u S) (q0 := 0) (ci := 10) (C := RX10) K (mX10_best l G FU (u 0 0) (u 6 0) (u 7) (u 8) (u 10) (u 1 0) (u 2 0) (u 9 0) (u 11 0) (u 12 0) (u 13 0) (S 7) (S 8) (S 10) (xs (x3 + 1).toNatClampNeg) h1) tw_3_202 tw_1_1 tw_3_200 tw_3_201 tw_3_199 cdX10_best ⟨Nat.le_of_ble_eq_true rfl, Nat.le_of_ble_eq_true rfl⟩ hP hD hS [0, 6, 7, 8, 10] rfl rfl rfl rfl rfl rfl rfl hl.1 (Nat.le_of_ble_eq_true rfl) ⟨Nat.le_of_ble_eq_true rfl, Nat.le_of_ble_eq_true rfl⟩ dL_law_660 (fun H locs hP hD hS => ?_)
      have hP : va_P G.1 vwCl (List.flatten (lwW G u (uS S 10 r.2))) H := hP
      have hD : va_D (fun q : Nat => s.heap.size ≤ q) (List.flatten (lwW G u (uS S 10 r.2))) := hD
      refine lv_aload_n hx hb dL_law_663 rfl (lv_at hl 2 rfl) ?_
      refine lv_aload_n hx hb dL_law_664 rfl (lv_at hl 0 rfl) ?_
      refine lv_iload_n hx hb dL_law_665 rfl (lv_at hl 3 rfl) ?_
      refine lv_iconst (v := 1) hx hb dL_law_666 li_1 ?_
      refine lv_iadd hx hb dL_law_667 ?_
      refine va_sld hx hb hX hbl hbA hS (lw_ix hi5 hL ex 1 (by decide) rfl) dL_law_668 ?_
      refine sl_V (Ws := lwW G u (uS S 10 r.2)) (q0 := 75) (ci := 11) (C := RX11) K (mX11_best l G FU (u 20) (S 20) (xs (x3 + 1).toNatClampNeg) h2) tw_5_139 tw_1_12 tw_5_137 tw_5_138 tw_5_136 cdX11_best ⟨Nat.le_of_ble_eq_true rfl, Nat.le_of_ble_eq_true rfl⟩ hP hD hS [20] rfl rfl rfl rfl rfl rfl rfl hl.1 (Nat.le_of_ble_eq_true rfl) ⟨Nat.le_of_ble_eq_true rfl, Nat.le_of_ble_eq_true rfl⟩ dL_law_669 (fun H locs hP hD hS => ?_)
      have hP : va_P G.1 vwCl (List.flatten (lwW G u (uS (uS S 10 r.2) 20 r'.2))) H := hP
      have hD : va_D (fun q : Nat => s.heap.size ≤ q) (List.flatten (lwW G u (uS (uS S 10 r.2) 20 r'.2))) := hD
      refine lv_icmp_eq (tgt := 893) hx hb dL_law_672 (by decide) (fun _ => ?_) (fun c9 => absurd heq c9)
      exact tail (uS (uS S 10 r.2) 20 r'.2) hI2 H locs hP hD hS
    by_cases c17 : sv = 17
    · refine lv_tableIn (off := 645) (tgt := 677) hx hb dL_law_32 (by rw [c17]; decide) (by rw [c17]; decide) (by rw [c17] <;> rfl) (by decide) ?_
      obtain ⟨r, r', h1, h2, heq⟩ := t_hide S (xs (x3 + 1).toNatClampNeg) hI
      refine lv_aload_n hx hb dL_law_677 rfl (lv_at hl 1 rfl) ?_
      refine lv_aload_n hx hb dL_law_678 rfl (lv_at hl 0 rfl) ?_
      refine lv_iload_n hx hb dL_law_679 rfl (lv_at hl 3 rfl) ?_
      refine lv_iconst (v := 1) hx hb dL_law_680 li_1 ?_
      refine lv_iadd hx hb dL_law_681 ?_
      refine va_sld hx hb hX hbl hbA hS (lw_ix hi5 hL ex 1 (by decide) rfl) dL_law_682 ?_
      refine sl_V (Ws := lwW G u S) (q0 := 0) (ci := 10) (C := RX10) K (mX10_hide l G FU (u 0 0) (u 6 0) (u 7) (u 8) (u 1 0) (u 2 0) (u 9 0) (u 10 0) (u 11 0) (u 12 0) (u 13 0) (S 7) (S 8) (xs (x3 + 1).toNatClampNeg) h1) tw_3_211 tw_1_1 tw_3_209 tw_3_210 tw_3_208 cdX10_hide ⟨Nat.le_of_ble_eq_true rfl, Nat.le_of_ble_eq_true rfl⟩ hP hD hS [0, 6, 7, 8] rfl rfl rfl rfl rfl rfl rfl hl.1 (Nat.le_of_ble_eq_true rfl) ⟨Nat.le_of_ble_eq_true rfl, Nat.le_of_ble_eq_true rfl⟩ dL_law_683 (fun H locs hP hD hS => ?_)
      have hP : va_P G.1 vwCl (List.flatten (lwW G u S)) H := hP
      have hD : va_D (fun q : Nat => s.heap.size ≤ q) (List.flatten (lwW G u S)) := hD
      refine lv_aload_n hx hb dL_law_686 rfl (lv_at hl 2 rfl) ?_
      refine lv_aload_n hx hb dL_law_687 rfl (lv_at hl 0 rfl) ?_
      refine lv_iload_n hx hb dL_law_688 rfl (lv_at hl 3 rfl) ?_
      refine lv_iconst (v := 1) hx hb dL_law_689 li_1 ?_
      refine lv_iadd hx hb dL_law_690 ?_
      refine va_sld hx hb hX hbl hbA hS (lw_ix hi5 hL ex 1 (by decide) rfl) dL_law_691 ?_
      refine sl_V (Ws := lwW G u S) (q0 := 75) (ci := 11) (C := RX11) K (mX11_hide l G FU (u 20) (S 20) (xs (x3 + 1).toNatClampNeg) h2) tw_5_147 tw_1_12 tw_5_145 tw_5_146 tw_5_144 cdX11_hide ⟨Nat.le_of_ble_eq_true rfl, Nat.le_of_ble_eq_true rfl⟩ hP hD hS [20] rfl rfl rfl rfl rfl rfl rfl hl.1 (Nat.le_of_ble_eq_true rfl) ⟨Nat.le_of_ble_eq_true rfl, Nat.le_of_ble_eq_true rfl⟩ dL_law_692 (fun H locs hP hD hS => ?_)
      have hP : va_P G.1 vwCl (List.flatten (lwW G u S)) H := hP
      have hD : va_D (fun q : Nat => s.heap.size ≤ q) (List.flatten (lwW G u S)) := hD
      refine lv_icmp_eq (tgt := 893) hx hb dL_law_695 (by decide) (fun _ => ?_) (fun c9 => absurd heq c9)
      exact tail S hI H locs hP hD hS
    by_cases c18 : sv = 18
    · refine lv_tableIn (off := 668) (tgt := 700) hx hb dL_law_32 (by rw [c18]; decide) (by rw [c18]; decide) (by rw [c18] <;> rfl) (by decide) ?_
      obtain ⟨r, r', h1, h2, heq, hI2⟩ := t_sight S (xs (x3 + 1).toNatClampNeg) (xs (x3 + 2).toNatClampNeg) hI
      refine lv_aload_n hx hb dL_law_700 rfl (lv_at hl 1 rfl) ?_
      refine lv_aload_n hx hb dL_law_701 rfl (lv_at hl 0 rfl) ?_
      refine lv_iload_n hx hb dL_law_702 rfl (lv_at hl 3 rfl) ?_
      refine lv_iconst (v := 1) hx hb dL_law_703 li_1 ?_
      refine lv_iadd hx hb dL_law_704 ?_
      refine va_sld hx hb hX hbl hbA hS (lw_ix hi5 hL ex 1 (by decide) rfl) dL_law_705 ?_
      refine lv_aload_n hx hb dL_law_706 rfl (lv_at hl 0 rfl) ?_
      refine lv_iload_n hx hb dL_law_707 rfl (lv_at hl 3 rfl) ?_
      refine lv_iconst (v := 2) hx hb dL_law_708 li_2 ?_
      refine lv_iadd hx hb dL_law_709 ?_
      refine va_sld hx hb hX hbl hbA hS (lw_ix hi5 hL ex 2 (by decide) rfl) dL_law_710 ?_
      refine sl_V (Ws := lwW G u S) (q0 := 0) (ci := 10) (C := RX10) K (mX10_sight l G FU (u 0 0) (u 11) (u 1 0) (u 2 0) (u 6 0) (u 9 0) (u 10 0) (u 12 0) (u 13 0) (S 11) (xs (x3 + 1).toNatClampNeg) (xs (x3 + 2).toNatClampNeg) h1) tw_3_227 tw_1_1 tw_3_225 tw_3_226 tw_3_224 cdX10_sight ⟨Nat.le_of_ble_eq_true rfl, Nat.le_of_ble_eq_true rfl⟩ hP hD hS [0, 11] rfl rfl rfl rfl rfl rfl rfl hl.1 (Nat.le_of_ble_eq_true rfl) ⟨Nat.le_of_ble_eq_true rfl, Nat.le_of_ble_eq_true rfl⟩ dL_law_711 (fun H locs hP hD hS => ?_)
      have hP : va_P G.1 vwCl (List.flatten (lwW G u (uS S 11 r.2))) H := hP
      have hD : va_D (fun q : Nat => s.heap.size ≤ q) (List.flatten (lwW G u (uS S 11 r.2))) := hD
      refine lv_aload_n hx hb dL_law_714 rfl (lv_at hl 2 rfl) ?_
      refine lv_aload_n hx hb dL_law_715 rfl (lv_at hl 0 rfl) ?_
      refine lv_iload_n hx hb dL_law_716 rfl (lv_at hl 3 rfl) ?_
      refine lv_iconst (v := 1) hx hb dL_law_717 li_1 ?_
      refine lv_iadd hx hb dL_law_718 ?_
      refine va_sld hx hb hX hbl hbA hS (lw_ix hi5 hL ex 1 (by decide) rfl) dL_law_719 ?_
      refine lv_aload_n hx hb dL_law_720 rfl (lv_at hl 0 rfl) ?_
      refine lv_iload_n hx hb dL_law_721 rfl (lv_at hl 3 rfl) ?_
      refine lv_iconst (v := 2) hx hb dL_law_722 li_2 ?_
      refine lv_iadd hx hb dL_law_723 ?_
      refine va_sld hx hb hX hbl hbA hS (lw_ix hi5 hL ex 2 (by decide) rfl) dL_law_724 ?_
      refine sl_V (Ws := lwW G u (uS S 11 r.2)) (q0 := 75) (ci := 11) (C := RX11) K (mX11_sight l G FU (u 20) (S 20) (xs (x3 + 1).toNatClampNeg) (xs (x3 + 2).toNatClampNeg) h2) tw_5_155 tw_1_12 tw_5_153 tw_5_154 tw_5_152 cdX11_sight ⟨Nat.le_of_ble_eq_true rfl, Nat.le_of_ble_eq_true rfl⟩ hP hD hS [20] rfl rfl rfl rfl rfl rfl rfl hl.1 (Nat.le_of_ble_eq_true rfl) ⟨Nat.le_of_ble_eq_true rfl, Nat.le_of_ble_eq_true rfl⟩ dL_law_725 (fun H locs hP hD hS => ?_)
      have hP : va_P G.1 vwCl (List.flatten (lwW G u (uS (uS S 11 r.2) 20 r'.2))) H := hP
      have hD : va_D (fun q : Nat => s.heap.size ≤ q) (List.flatten (lwW G u (uS (uS S 11 r.2) 20 r'.2))) := hD
      refine lv_icmp_eq (tgt := 893) hx hb dL_law_728 (by decide) (fun _ => ?_) (fun c9 => absurd heq c9)
      exact tail (uS (uS S 11 r.2) 20 r'.2) hI2 H locs hP hD hS
    by_cases c19 : sv = 19
    · refine lv_tableIn (off := 701) (tgt := 733) hx hb dL_law_32 (by rw [c19]; decide) (by rw [c19]; decide) (by rw [c19] <;> rfl) (by decide) ?_
      obtain ⟨r, r', h1, h2, heq, hI2⟩ := t_unsee S  hI
      refine lv_aload_n hx hb dL_law_733 rfl (lv_at hl 1 rfl) ?_
      refine sl_V (Ws := lwW G u S) (q0 := 0) (ci := 10) (C := RX10) K (mX10_unsee l G FU (u 0 0) (u 11) (u 1 0) (u 2 0) (u 6 0) (u 9 0) (u 10 0) (u 12 0) (u 13 0) (S 11) h1) tw_3_235 tw_1_1 tw_3_233 tw_3_234 tw_3_232 cdX10_unsee ⟨Nat.le_of_ble_eq_true rfl, Nat.le_of_ble_eq_true rfl⟩ hP hD hS [0, 11] rfl rfl rfl rfl rfl rfl rfl hl.1 (Nat.le_of_ble_eq_true rfl) ⟨Nat.le_of_ble_eq_true rfl, Nat.le_of_ble_eq_true rfl⟩ dL_law_734 (fun H locs hP hD hS => ?_)
      have hP : va_P G.1 vwCl (List.flatten (lwW G u (uS S 11 r.2))) H := hP
      have hD : va_D (fun q : Nat => s.heap.size ≤ q) (List.flatten (lwW G u (uS S 11 r.2))) := hD
      refine lv_aload_n hx hb dL_law_737 rfl (lv_at hl 2 rfl) ?_
      refine sl_V (Ws := lwW G u (uS S 11 r.2)) (q0 := 75) (ci := 11) (C := RX11) K (mX11_unsee l G FU (u 20) (S 20) h2) tw_5_160 tw_1_12 tw_5_158 tw_5_159 tw_5_157 cdX11_unsee ⟨Nat.le_of_ble_eq_true rfl, Nat.le_of_ble_eq_true rfl⟩ hP hD hS [20] rfl rfl rfl rfl rfl rfl rfl hl.1 (Nat.le_of_ble_eq_true rfl) ⟨Nat.le_of_ble_eq_true rfl, Nat.le_of_ble_eq_true rfl⟩ dL_law_738 (fun H locs hP hD hS => ?_)
      have hP : va_P G.1 vwCl (List.flatten (lwW G u (uS (uS S 11 r.2) 20 r'.2))) H := hP
      have hD : va_D (fun q : Nat => s.heap.size ≤ q) (List.flatten (lwW G u (uS (uS S 11 r.2) 20 r'.2))) := hD
      refine lv_icmp_eq (tgt := 893) hx hb dL_law_741 (by decide) (fun _ => ?_) (fun c9 => absurd heq c9)
      exact tail (uS (uS S 11 r.2) 20 r'.2) hI2 H locs hP hD hS
    by_cases c20 : sv = 20
    · refine lv_tableIn (off := 714) (tgt := 746) hx hb dL_law_32 (by rw [c20]; decide) (by rw [c20]; decide) (by rw [c20] <;> rfl) (by decide) ?_
      obtain ⟨r, r', h1, h2, heq, hI2⟩ := t_fits S  hI
      refine lv_aload_n hx hb dL_law_746 rfl (lv_at hl 1 rfl) ?_
      refine sl_V (Ws := lwW G u S) (q0 := 0) (ci := 10) (C := RX10) K (mX10_fits l G FU (u 0 0) (u 11) (u 12) (u 1 0) (u 2 0) (u 6 0) (u 9 0) (u 10 0) (u 13 0) (S 11) (S 12) h1) tw_3_239 tw_1_1 tw_3_237 tw_3_238 tw_3_236 cdX10_fits ⟨Nat.le_of_ble_eq_true rfl, Nat.le_of_ble_eq_true rfl⟩ hP hD hS [0, 11, 12] rfl rfl rfl rfl rfl rfl rfl hl.1 (Nat.le_of_ble_eq_true rfl) ⟨Nat.le_of_ble_eq_true rfl, Nat.le_of_ble_eq_true rfl⟩ dL_law_747 (fun H locs hP hD hS => ?_)
      have hP : va_P G.1 vwCl (List.flatten (lwW G u (uS S 12 r.2))) H := hP
      have hD : va_D (fun q : Nat => s.heap.size ≤ q) (List.flatten (lwW G u (uS S 12 r.2))) := hD
      refine lv_aload_n hx hb dL_law_750 rfl (lv_at hl 2 rfl) ?_
      refine sl_V (Ws := lwW G u (uS S 12 r.2)) (q0 := 75) (ci := 11) (C := RX11) K (mX11_fits l G FU (u 20) (S 20) h2) tw_5_164 tw_1_12 tw_5_162 tw_5_163 tw_5_161 cdX11_fits ⟨Nat.le_of_ble_eq_true rfl, Nat.le_of_ble_eq_true rfl⟩ hP hD hS [20] rfl rfl rfl rfl rfl rfl rfl hl.1 (Nat.le_of_ble_eq_true rfl) ⟨Nat.le_of_ble_eq_true rfl, Nat.le_of_ble_eq_true rfl⟩ dL_law_751 (fun H locs hP hD hS => ?_)
      have hP : va_P G.1 vwCl (List.flatten (lwW G u (uS (uS S 12 r.2) 20 r'.2))) H := hP
      have hD : va_D (fun q : Nat => s.heap.size ≤ q) (List.flatten (lwW G u (uS (uS S 12 r.2) 20 r'.2))) := hD
      refine lv_icmp_eq (tgt := 893) hx hb dL_law_754 (by decide) (fun _ => ?_) (fun c9 => absurd heq c9)
      exact tail (uS (uS S 12 r.2) 20 r'.2) hI2 H locs hP hD hS
    by_cases c21 : sv = 21
    · refine lv_tableIn (off := 727) (tgt := 759) hx hb dL_law_32 (by rw [c21]; decide) (by rw [c21]; decide) (by rw [c21] <;> rfl) (by decide) ?_
      by_cases cz : xs (x3 + 1).toNatClampNeg = 0
      · obtain ⟨r, r', h1, h2, heq, hI2⟩ := t_people S (0 : Int32) hI (Or.inl rfl)
        refine lv_aload_n hx hb dL_law_759 rfl (lv_at hl 1 rfl) ?_
        refine lv_aload_n hx hb dL_law_760 rfl (lv_at hl 0 rfl) ?_
        refine lv_iload_n hx hb dL_law_761 rfl (lv_at hl 3 rfl) ?_
        refine lv_iconst (v := 1) hx hb dL_law_762 li_1 ?_
        refine lv_iadd hx hb dL_law_763 ?_
        refine va_sld hx hb hX hbl hbA hS (lw_ix hi5 hL ex 1 (by decide) rfl) dL_law_764 ?_
        refine lv_if_eq (tgt := 772) hx hb dL_law_765 (by decide) (fun _ => ?_) (fun c9 => absurd cz c9)
        refine lv_iconst (v := 0) hx hb dL_law_772 li_0 ?_
        refine sl_V (Ws := lwW G u S) (q0 := 0) (ci := 10) (C := RX10) K (mX10_people l G FU (u 0 0) (u 11) (u 12) (u 1 0) (u 2 0) (u 6 0) (u 9 0) (u 10 0) (u 13 0) (S 11) (S 12) (0 : Int32) h1) tw_4_29 tw_1_1 tw_4_27 tw_4_28 tw_4_26 cdX10_people ⟨Nat.le_of_ble_eq_true rfl, Nat.le_of_ble_eq_true rfl⟩ hP hD hS [0, 11, 12] rfl rfl rfl rfl rfl rfl rfl hl.1 (Nat.le_of_ble_eq_true rfl) ⟨Nat.le_of_ble_eq_true rfl, Nat.le_of_ble_eq_true rfl⟩ dL_law_773 (fun H locs hP hD hS => ?_)
        have hP : va_P G.1 vwCl (List.flatten (lwW G u (uS S 12 r.2))) H := hP
        have hD : va_D (fun q : Nat => s.heap.size ≤ q) (List.flatten (lwW G u (uS S 12 r.2))) := hD
        refine lv_aload_n hx hb dL_law_776 rfl (lv_at hl 2 rfl) ?_
        refine lv_aload_n hx hb dL_law_777 rfl (lv_at hl 0 rfl) ?_
        refine lv_iload_n hx hb dL_law_778 rfl (lv_at hl 3 rfl) ?_
        refine lv_iconst (v := 1) hx hb dL_law_779 li_1 ?_
        refine lv_iadd hx hb dL_law_780 ?_
        refine va_sld hx hb hX hbl hbA hS (lw_ix hi5 hL ex 1 (by decide) rfl) dL_law_781 ?_
        refine lv_if_eq (tgt := 789) hx hb dL_law_782 (by decide) (fun _ => ?_) (fun c9 => absurd cz c9)
        refine lv_iconst (v := 0) hx hb dL_law_789 li_0 ?_
        refine sl_V (Ws := lwW G u (uS S 12 r.2)) (q0 := 75) (ci := 11) (C := RX11) K (mX11_people l G FU (u 20) (S 20) (0 : Int32) h2) tw_5_185 tw_1_12 tw_5_183 tw_5_184 tw_5_182 cdX11_people ⟨Nat.le_of_ble_eq_true rfl, Nat.le_of_ble_eq_true rfl⟩ hP hD hS [20] rfl rfl rfl rfl rfl rfl rfl hl.1 (Nat.le_of_ble_eq_true rfl) ⟨Nat.le_of_ble_eq_true rfl, Nat.le_of_ble_eq_true rfl⟩ dL_law_790 (fun H locs hP hD hS => ?_)
        have hP : va_P G.1 vwCl (List.flatten (lwW G u (uS (uS S 12 r.2) 20 r'.2))) H := hP
        have hD : va_D (fun q : Nat => s.heap.size ≤ q) (List.flatten (lwW G u (uS (uS S 12 r.2) 20 r'.2))) := hD
        refine lv_icmp_eq (tgt := 893) hx hb dL_law_793 (by decide) (fun _ => ?_) (fun c9 => absurd heq c9)
        exact tail (uS (uS S 12 r.2) 20 r'.2) hI2 H locs hP hD hS
      obtain ⟨r, r', h1, h2, heq, hI2⟩ := t_people S (1 : Int32) hI (Or.inr rfl)
      refine lv_aload_n hx hb dL_law_759 rfl (lv_at hl 1 rfl) ?_
      refine lv_aload_n hx hb dL_law_760 rfl (lv_at hl 0 rfl) ?_
      refine lv_iload_n hx hb dL_law_761 rfl (lv_at hl 3 rfl) ?_
      refine lv_iconst (v := 1) hx hb dL_law_762 li_1 ?_
      refine lv_iadd hx hb dL_law_763 ?_
      refine va_sld hx hb hX hbl hbA hS (lw_ix hi5 hL ex 1 (by decide) rfl) dL_law_764 ?_
      refine lv_if_eq (tgt := 772) hx hb dL_law_765 (by decide) (fun c9 => absurd c9 cz) (fun _ => ?_)
      refine lv_iconst (v := 1) hx hb dL_law_768 li_1 ?_
      refine lv_goto (tgt := 773) hx hb dL_law_769 (by decide) ?_
      refine sl_V (Ws := lwW G u S) (q0 := 0) (ci := 10) (C := RX10) K (mX10_people l G FU (u 0 0) (u 11) (u 12) (u 1 0) (u 2 0) (u 6 0) (u 9 0) (u 10 0) (u 13 0) (S 11) (S 12) (1 : Int32) h1) tw_4_29 tw_1_1 tw_4_27 tw_4_28 tw_4_26 cdX10_people ⟨Nat.le_of_ble_eq_true rfl, Nat.le_of_ble_eq_true rfl⟩ hP hD hS [0, 11, 12] rfl rfl rfl rfl rfl rfl rfl hl.1 (Nat.le_of_ble_eq_true rfl) ⟨Nat.le_of_ble_eq_true rfl, Nat.le_of_ble_eq_true rfl⟩ dL_law_773 (fun H locs hP hD hS => ?_)
      have hP : va_P G.1 vwCl (List.flatten (lwW G u (uS S 12 r.2))) H := hP
      have hD : va_D (fun q : Nat => s.heap.size ≤ q) (List.flatten (lwW G u (uS S 12 r.2))) := hD
      refine lv_aload_n hx hb dL_law_776 rfl (lv_at hl 2 rfl) ?_
      refine lv_aload_n hx hb dL_law_777 rfl (lv_at hl 0 rfl) ?_
      refine lv_iload_n hx hb dL_law_778 rfl (lv_at hl 3 rfl) ?_
      refine lv_iconst (v := 1) hx hb dL_law_779 li_1 ?_
      refine lv_iadd hx hb dL_law_780 ?_
      refine va_sld hx hb hX hbl hbA hS (lw_ix hi5 hL ex 1 (by decide) rfl) dL_law_781 ?_
      refine lv_if_eq (tgt := 789) hx hb dL_law_782 (by decide) (fun c9 => absurd c9 cz) (fun _ => ?_)
      refine lv_iconst (v := 1) hx hb dL_law_785 li_1 ?_
      refine lv_goto (tgt := 790) hx hb dL_law_786 (by decide) ?_
      refine sl_V (Ws := lwW G u (uS S 12 r.2)) (q0 := 75) (ci := 11) (C := RX11) K (mX11_people l G FU (u 20) (S 20) (1 : Int32) h2) tw_5_185 tw_1_12 tw_5_183 tw_5_184 tw_5_182 cdX11_people ⟨Nat.le_of_ble_eq_true rfl, Nat.le_of_ble_eq_true rfl⟩ hP hD hS [20] rfl rfl rfl rfl rfl rfl rfl hl.1 (Nat.le_of_ble_eq_true rfl) ⟨Nat.le_of_ble_eq_true rfl, Nat.le_of_ble_eq_true rfl⟩ dL_law_790 (fun H locs hP hD hS => ?_)
      have hP : va_P G.1 vwCl (List.flatten (lwW G u (uS (uS S 12 r.2) 20 r'.2))) H := hP
      have hD : va_D (fun q : Nat => s.heap.size ≤ q) (List.flatten (lwW G u (uS (uS S 12 r.2) 20 r'.2))) := hD
      refine lv_icmp_eq (tgt := 893) hx hb dL_law_793 (by decide) (fun _ => ?_) (fun c9 => absurd heq c9)
      exact tail (uS (uS S 12 r.2) 20 r'.2) hI2 H locs hP hD hS
    by_cases c22 : sv = 22
    · refine lv_tableIn (off := 766) (tgt := 798) hx hb dL_law_32 (by rw [c22]; decide) (by rw [c22]; decide) (by rw [c22] <;> rfl) (by decide) ?_
      obtain ⟨r, r', h1, h2, heq, hI2⟩ := t_sure S  hI
      refine lv_aload_n hx hb dL_law_798 rfl (lv_at hl 1 rfl) ?_
      refine sl_V (Ws := lwW G u S) (q0 := 0) (ci := 10) (C := RX10) K (mX10_sure l G FU (u 0 0) (u 11) (u 12) (u 1 0) (u 2 0) (u 6 0) (u 9 0) (u 10 0) (u 13 0) (S 11) (S 12) h1) tw_4_49 tw_1_1 tw_4_47 tw_4_48 tw_4_46 cdX10_sure ⟨Nat.le_of_ble_eq_true rfl, Nat.le_of_ble_eq_true rfl⟩ hP hD hS [0, 11, 12] rfl rfl rfl rfl rfl rfl rfl hl.1 (Nat.le_of_ble_eq_true rfl) ⟨Nat.le_of_ble_eq_true rfl, Nat.le_of_ble_eq_true rfl⟩ dL_law_799 (fun H locs hP hD hS => ?_)
      have hP : va_P G.1 vwCl (List.flatten (lwW G u (uS S 12 r.2))) H := hP
      have hD : va_D (fun q : Nat => s.heap.size ≤ q) (List.flatten (lwW G u (uS S 12 r.2))) := hD
      refine lv_aload_n hx hb dL_law_802 rfl (lv_at hl 2 rfl) ?_
      refine sl_V (Ws := lwW G u (uS S 12 r.2)) (q0 := 75) (ci := 11) (C := RX11) K (mX11_sure l G FU (u 20) (S 20) h2) tw_5_189 tw_1_12 tw_5_187 tw_5_188 tw_5_186 cdX11_sure ⟨Nat.le_of_ble_eq_true rfl, Nat.le_of_ble_eq_true rfl⟩ hP hD hS [20] rfl rfl rfl rfl rfl rfl rfl hl.1 (Nat.le_of_ble_eq_true rfl) ⟨Nat.le_of_ble_eq_true rfl, Nat.le_of_ble_eq_true rfl⟩ dL_law_803 (fun H locs hP hD hS => ?_)
      have hP : va_P G.1 vwCl (List.flatten (lwW G u (uS (uS S 12 r.2) 20 r'.2))) H := hP
      have hD : va_D (fun q : Nat => s.heap.size ≤ q) (List.flatten (lwW G u (uS (uS S 12 r.2) 20 r'.2))) := hD
      refine lv_icmp_eq (tgt := 893) hx hb dL_law_806 (by decide) (fun _ => ?_) (fun c9 => absurd heq c9)
      exact tail (uS (uS S 12 r.2) 20 r'.2) hI2 H locs hP hD hS
    by_cases c23 : sv = 23
    · refine lv_tableIn (off := 779) (tgt := 811) hx hb dL_law_32 (by rw [c23]; decide) (by rw [c23]; decide) (by rw [c23] <;> rfl) (by decide) ?_
      obtain ⟨r, r', h1, h2, heq, hI2⟩ := t_next S  hI
      refine lv_aload_n hx hb dL_law_811 rfl (lv_at hl 1 rfl) ?_
      refine sl_V (Ws := lwW G u S) (q0 := 0) (ci := 10) (C := RX10) K (mX10_next l G FU (u 0 0) (u 11) (u 12) (u 1 0) (u 2 0) (u 6 0) (u 9 0) (u 10 0) (u 13 0) (S 11) (S 12) h1) tw_4_61 tw_1_1 tw_4_59 tw_4_60 tw_4_58 cdX10_next ⟨Nat.le_of_ble_eq_true rfl, Nat.le_of_ble_eq_true rfl⟩ hP hD hS [0, 11, 12] rfl rfl rfl rfl rfl rfl rfl hl.1 (Nat.le_of_ble_eq_true rfl) ⟨Nat.le_of_ble_eq_true rfl, Nat.le_of_ble_eq_true rfl⟩ dL_law_812 (fun H locs hP hD hS => ?_)
      have hP : va_P G.1 vwCl (List.flatten (lwW G u (uS S 12 r.2))) H := hP
      have hD : va_D (fun q : Nat => s.heap.size ≤ q) (List.flatten (lwW G u (uS S 12 r.2))) := hD
      refine lv_aload_n hx hb dL_law_815 rfl (lv_at hl 2 rfl) ?_
      refine sl_V (Ws := lwW G u (uS S 12 r.2)) (q0 := 75) (ci := 11) (C := RX11) K (mX11_next l G FU (u 20) (S 20) h2) tw_5_193 tw_1_12 tw_5_191 tw_5_192 tw_5_190 cdX11_next ⟨Nat.le_of_ble_eq_true rfl, Nat.le_of_ble_eq_true rfl⟩ hP hD hS [20] rfl rfl rfl rfl rfl rfl rfl hl.1 (Nat.le_of_ble_eq_true rfl) ⟨Nat.le_of_ble_eq_true rfl, Nat.le_of_ble_eq_true rfl⟩ dL_law_816 (fun H locs hP hD hS => ?_)
      have hP : va_P G.1 vwCl (List.flatten (lwW G u (uS (uS S 12 r.2) 20 r'.2))) H := hP
      have hD : va_D (fun q : Nat => s.heap.size ≤ q) (List.flatten (lwW G u (uS (uS S 12 r.2) 20 r'.2))) := hD
      refine lv_icmp_eq (tgt := 893) hx hb dL_law_819 (by decide) (fun _ => ?_) (fun c9 => absurd heq c9)
      exact tail (uS (uS S 12 r.2) 20 r'.2) hI2 H locs hP hD hS
    by_cases c24 : sv = 24
    · refine lv_tableIn (off := 792) (tgt := 824) hx hb dL_law_32 (by rw [c24]; decide) (by rw [c24]; decide) (by rw [c24] <;> rfl) (by decide) ?_
      obtain ⟨r, r', h1, h2, heq, hI2⟩ := t_keep S (xs (x3 + 1).toNatClampNeg) hI
      refine lv_aload_n hx hb dL_law_824 rfl (lv_at hl 1 rfl) ?_
      refine lv_aload_n hx hb dL_law_825 rfl (lv_at hl 0 rfl) ?_
      refine lv_iload_n hx hb dL_law_826 rfl (lv_at hl 3 rfl) ?_
      refine lv_iconst (v := 1) hx hb dL_law_827 li_1 ?_
      refine lv_iadd hx hb dL_law_828 ?_
      refine va_sld hx hb hX hbl hbA hS (lw_ix hi5 hL ex 1 (by decide) rfl) dL_law_829 ?_
      refine sl_V (Ws := lwW G u S) (q0 := 0) (ci := 10) (C := RX10) K (mX10_keep l G FU (u 0 0) (u 6 0) (u 7) (u 11) (u 13 0) (u 14 0) (u 15) (u 16) (u 17 0) (u 18) (u 19) (u 1 0) (u 2 0) (u 9 0) (u 10 0) (u 12 0) (u 8 0) (S 7) (S 11) (S 14) (S 15) (S 16) (S 17) (S 18) (S 19) (xs (x3 + 1).toNatClampNeg) h1) tw_4_77 tw_1_1 tw_4_75 tw_4_76 tw_4_74 cdX10_keep ⟨Nat.le_of_ble_eq_true rfl, Nat.le_of_ble_eq_true rfl⟩ hP hD hS [0, 6, 7, 11, 13, 14, 15, 16, 17, 18, 19] rfl rfl rfl rfl rfl rfl rfl hl.1 (Nat.le_of_ble_eq_true rfl) ⟨Nat.le_of_ble_eq_true rfl, Nat.le_of_ble_eq_true rfl⟩ dL_law_830 (fun H locs hP hD hS => ?_)
      have hP : va_P G.1 vwCl (List.flatten (lwW G u (uS (uS (uS (uS (uS (uS S 14 r.2.1) 15 r.2.2.1) 16 r.2.2.2.1) 17 r.2.2.2.2.1) 18 r.2.2.2.2.2.1) 19 r.2.2.2.2.2.2))) H := hP
      have hD : va_D (fun q : Nat => s.heap.size ≤ q) (List.flatten (lwW G u (uS (uS (uS (uS (uS (uS S 14 r.2.1) 15 r.2.2.1) 16 r.2.2.2.1) 17 r.2.2.2.2.1) 18 r.2.2.2.2.2.1) 19 r.2.2.2.2.2.2))) := hD
      refine lv_aload_n hx hb dL_law_833 rfl (lv_at hl 2 rfl) ?_
      refine lv_aload_n hx hb dL_law_834 rfl (lv_at hl 0 rfl) ?_
      refine lv_iload_n hx hb dL_law_835 rfl (lv_at hl 3 rfl) ?_
      refine lv_iconst (v := 1) hx hb dL_law_836 li_1 ?_
      refine lv_iadd hx hb dL_law_837 ?_
      refine va_sld hx hb hX hbl hbA hS (lw_ix hi5 hL ex 1 (by decide) rfl) dL_law_838 ?_
      refine sl_V (Ws := lwW G u (uS (uS (uS (uS (uS (uS S 14 r.2.1) 15 r.2.2.1) 16 r.2.2.2.1) 17 r.2.2.2.2.1) 18 r.2.2.2.2.2.1) 19 r.2.2.2.2.2.2)) (q0 := 75) (ci := 11) (C := RX11) K (mX11_keep l G FU (u 20) (S 20) (xs (x3 + 1).toNatClampNeg) h2) tw_5_197 tw_1_12 tw_5_195 tw_5_196 tw_5_194 cdX11_keep ⟨Nat.le_of_ble_eq_true rfl, Nat.le_of_ble_eq_true rfl⟩ hP hD hS [20] rfl rfl rfl rfl rfl rfl rfl hl.1 (Nat.le_of_ble_eq_true rfl) ⟨Nat.le_of_ble_eq_true rfl, Nat.le_of_ble_eq_true rfl⟩ dL_law_839 (fun H locs hP hD hS => ?_)
      have hP : va_P G.1 vwCl (List.flatten (lwW G u (uS (uS (uS (uS (uS (uS (uS S 14 r.2.1) 15 r.2.2.1) 16 r.2.2.2.1) 17 r.2.2.2.2.1) 18 r.2.2.2.2.2.1) 19 r.2.2.2.2.2.2) 20 r'.2))) H := hP
      have hD : va_D (fun q : Nat => s.heap.size ≤ q) (List.flatten (lwW G u (uS (uS (uS (uS (uS (uS (uS S 14 r.2.1) 15 r.2.2.1) 16 r.2.2.2.1) 17 r.2.2.2.2.1) 18 r.2.2.2.2.2.1) 19 r.2.2.2.2.2.2) 20 r'.2))) := hD
      refine lv_icmp_eq (tgt := 893) hx hb dL_law_842 (by decide) (fun _ => ?_) (fun c9 => absurd heq c9)
      exact tail (uS (uS (uS (uS (uS (uS (uS S 14 r.2.1) 15 r.2.2.1) 16 r.2.2.2.1) 17 r.2.2.2.2.1) 18 r.2.2.2.2.2.1) 19 r.2.2.2.2.2.2) 20 r'.2) hI2 H locs hP hD hS
    by_cases c25 : sv = 25
    · refine lv_tableIn (off := 815) (tgt := 847) hx hb dL_law_32 (by rw [c25]; decide) (by rw [c25]; decide) (by rw [c25] <;> rfl) (by decide) ?_
      obtain ⟨r, r', h1, h2, heq, hI2⟩ := t_again S (xs (x3 + 1).toNatClampNeg) hI
      refine lv_aload_n hx hb dL_law_847 rfl (lv_at hl 1 rfl) ?_
      refine lv_aload_n hx hb dL_law_848 rfl (lv_at hl 0 rfl) ?_
      refine lv_iload_n hx hb dL_law_849 rfl (lv_at hl 3 rfl) ?_
      refine lv_iconst (v := 1) hx hb dL_law_850 li_1 ?_
      refine lv_iadd hx hb dL_law_851 ?_
      refine va_sld hx hb hX hbl hbA hS (lw_ix hi5 hL ex 1 (by decide) rfl) dL_law_852 ?_
      refine sl_V (Ws := lwW G u S) (q0 := 0) (ci := 10) (C := RX10) K (mX10_again l G FU (u 0 0) (u 6 0) (u 7) (u 11) (u 9) (u 13 0) (u 14 0) (u 15) (u 16) (u 17 0) (u 18) (u 19) (u 1 0) (u 2 0) (u 10 0) (u 12 0) (u 8 0) (S 7) (S 11) (S 9) (S 14) (S 15) (S 16) (S 17) (S 18) (S 19) (xs (x3 + 1).toNatClampNeg) h1) tw_4_86 tw_1_1 tw_4_84 tw_4_85 tw_4_83 cdX10_again ⟨Nat.le_of_ble_eq_true rfl, Nat.le_of_ble_eq_true rfl⟩ hP hD hS [0, 6, 7, 11, 9, 13, 14, 15, 16, 17, 18, 19] rfl rfl rfl rfl rfl rfl rfl hl.1 (Nat.le_of_ble_eq_true rfl) ⟨Nat.le_of_ble_eq_true rfl, Nat.le_of_ble_eq_true rfl⟩ dL_law_853 (fun H locs hP hD hS => ?_)
      have hP : va_P G.1 vwCl (List.flatten (lwW G u (uS (uS (uS S 7 r.2.1) 11 r.2.2.1) 9 r.2.2.2))) H := hP
      have hD : va_D (fun q : Nat => s.heap.size ≤ q) (List.flatten (lwW G u (uS (uS (uS S 7 r.2.1) 11 r.2.2.1) 9 r.2.2.2))) := hD
      refine lv_aload_n hx hb dL_law_856 rfl (lv_at hl 2 rfl) ?_
      refine lv_aload_n hx hb dL_law_857 rfl (lv_at hl 0 rfl) ?_
      refine lv_iload_n hx hb dL_law_858 rfl (lv_at hl 3 rfl) ?_
      refine lv_iconst (v := 1) hx hb dL_law_859 li_1 ?_
      refine lv_iadd hx hb dL_law_860 ?_
      refine va_sld hx hb hX hbl hbA hS (lw_ix hi5 hL ex 1 (by decide) rfl) dL_law_861 ?_
      refine sl_V (Ws := lwW G u (uS (uS (uS S 7 r.2.1) 11 r.2.2.1) 9 r.2.2.2)) (q0 := 75) (ci := 11) (C := RX11) K (mX11_again l G FU (u 20) (S 20) (xs (x3 + 1).toNatClampNeg) h2) tw_5_201 tw_1_12 tw_5_199 tw_5_200 tw_5_198 cdX11_again ⟨Nat.le_of_ble_eq_true rfl, Nat.le_of_ble_eq_true rfl⟩ hP hD hS [20] rfl rfl rfl rfl rfl rfl rfl hl.1 (Nat.le_of_ble_eq_true rfl) ⟨Nat.le_of_ble_eq_true rfl, Nat.le_of_ble_eq_true rfl⟩ dL_law_862 (fun H locs hP hD hS => ?_)
      have hP : va_P G.1 vwCl (List.flatten (lwW G u (uS (uS (uS (uS S 7 r.2.1) 11 r.2.2.1) 9 r.2.2.2) 20 r'.2))) H := hP
      have hD : va_D (fun q : Nat => s.heap.size ≤ q) (List.flatten (lwW G u (uS (uS (uS (uS S 7 r.2.1) 11 r.2.2.1) 9 r.2.2.2) 20 r'.2))) := hD
      refine lv_icmp_eq (tgt := 893) hx hb dL_law_865 (by decide) (fun _ => ?_) (fun c9 => absurd heq c9)
      exact tail (uS (uS (uS (uS S 7 r.2.1) 11 r.2.2.1) 9 r.2.2.2) 20 r'.2) hI2 H locs hP hD hS
    by_cases c26 : sv = 26
    · refine lv_tableIn (off := 838) (tgt := 870) hx hb dL_law_32 (by rw [c26]; decide) (by rw [c26]; decide) (by rw [c26] <;> rfl) (by decide) ?_
      obtain ⟨r, r', h1, h2, heq⟩ := t_count S (xs (x3 + 1).toNatClampNeg) hI
      refine lv_aload_n hx hb dL_law_870 rfl (lv_at hl 1 rfl) ?_
      refine lv_aload_n hx hb dL_law_871 rfl (lv_at hl 0 rfl) ?_
      refine lv_iload_n hx hb dL_law_872 rfl (lv_at hl 3 rfl) ?_
      refine lv_iconst (v := 1) hx hb dL_law_873 li_1 ?_
      refine lv_iadd hx hb dL_law_874 ?_
      refine va_sld hx hb hX hbl hbA hS (lw_ix hi5 hL ex 1 (by decide) rfl) dL_law_875 ?_
      refine sl_V (Ws := lwW G u S) (q0 := 0) (ci := 10) (C := RX10) K (mX10_count l G FU (u 0 0) (u 1) (u 6 0) (u 7) (u 8) (u 11) (u 9) (u 2 0) (u 10 0) (u 12 0) (u 13 0) (S 1) (S 7) (S 8) (S 11) (S 9) (xs (x3 + 1).toNatClampNeg) h1) tw_4_90 tw_1_1 tw_4_88 tw_4_89 tw_4_87 cdX10_count ⟨Nat.le_of_ble_eq_true rfl, Nat.le_of_ble_eq_true rfl⟩ hP hD hS [0, 1, 6, 7, 8, 11, 9] rfl rfl rfl rfl rfl rfl rfl hl.1 (Nat.le_of_ble_eq_true rfl) ⟨Nat.le_of_ble_eq_true rfl, Nat.le_of_ble_eq_true rfl⟩ dL_law_876 (fun H locs hP hD hS => ?_)
      have hP : va_P G.1 vwCl (List.flatten (lwW G u S)) H := hP
      have hD : va_D (fun q : Nat => s.heap.size ≤ q) (List.flatten (lwW G u S)) := hD
      refine lv_aload_n hx hb dL_law_879 rfl (lv_at hl 2 rfl) ?_
      refine lv_aload_n hx hb dL_law_880 rfl (lv_at hl 0 rfl) ?_
      refine lv_iload_n hx hb dL_law_881 rfl (lv_at hl 3 rfl) ?_
      refine lv_iconst (v := 1) hx hb dL_law_882 li_1 ?_
      refine lv_iadd hx hb dL_law_883 ?_
      refine va_sld hx hb hX hbl hbA hS (lw_ix hi5 hL ex 1 (by decide) rfl) dL_law_884 ?_
      refine sl_V (Ws := lwW G u S) (q0 := 75) (ci := 11) (C := RX11) K (mX11_count l G FU (u 20) (S 20) (xs (x3 + 1).toNatClampNeg) h2) tw_5_205 tw_1_12 tw_5_203 tw_5_204 tw_5_202 cdX11_count ⟨Nat.le_of_ble_eq_true rfl, Nat.le_of_ble_eq_true rfl⟩ hP hD hS [20] rfl rfl rfl rfl rfl rfl rfl hl.1 (Nat.le_of_ble_eq_true rfl) ⟨Nat.le_of_ble_eq_true rfl, Nat.le_of_ble_eq_true rfl⟩ dL_law_885 (fun H locs hP hD hS => ?_)
      have hP : va_P G.1 vwCl (List.flatten (lwW G u S)) H := hP
      have hD : va_D (fun q : Nat => s.heap.size ≤ q) (List.flatten (lwW G u S)) := hD
      refine lv_icmp_eq (tgt := 893) hx hb dL_law_888 (by decide) (fun _ => ?_) (fun c9 => absurd heq c9)
      exact tail S hI H locs hP hD hS
    refine lv_tableOut (tgt := 893) hx hb dL_law_32 (by have n0 := lv_neT c0 (a := 0) rfl; have n1 := lv_neT c1 (a := 1) rfl; have n2 := lv_neT c2 (a := 2) rfl; have n3 := lv_neT c3 (a := 3) rfl; have n4 := lv_neT c4 (a := 4) rfl; have n5 := lv_neT c5 (a := 5) rfl; have n6 := lv_neT c6 (a := 6) rfl; have n7 := lv_neT c7 (a := 7) rfl; have n8 := lv_neT c8 (a := 8) rfl; have n9 := lv_neT c9 (a := 9) rfl; have n10 := lv_neT c10 (a := 10) rfl; have n11 := lv_neT c11 (a := 11) rfl; have n12 := lv_neT c12 (a := 12) rfl; have n13 := lv_neT c13 (a := 13) rfl; have n14 := lv_neT c14 (a := 14) rfl; have n15 := lv_neT c15 (a := 15) rfl; have n16 := lv_neT c16 (a := 16) rfl; have n17 := lv_neT c17 (a := 17) rfl; have n18 := lv_neT c18 (a := 18) rfl; have n19 := lv_neT c19 (a := 19) rfl; have n20 := lv_neT c20 (a := 20) rfl; have n21 := lv_neT c21 (a := 21) rfl; have n22 := lv_neT c22 (a := 22) rfl; have n23 := lv_neT c23 (a := 23) rfl; have n24 := lv_neT c24 (a := 24) rfl; have n25 := lv_neT c25 (a := 25) rfl; have n26 := lv_neT c26 (a := 26) rfl; omega) (by decide) ?_
    exact tail S hI H locs hP hD hS
