/-! BASE: one list of words for all methods, one form of contract, one row a call. -/
def isNest : Cond → Bool
  | .methodLinkNest .. => true
  | .fieldLinkNest .. => true
  | _ => false
def TB : List Cond := lw_tbl.filter goodWord
def TN : List Cond := lw_tbl.filter isNest
theorem tb_of {w : Cond} (h : w ∈ lw_tbl) (hg : goodWord w = true) : w ∈ TB := List.mem_filter.mpr ⟨h, hg⟩
theorem tn_of {w : Cond} (h : w ∈ lw_tbl) (hg : isNest w = true) : w ∈ TN := List.mem_filter.mpr ⟨h, hg⟩
theorem tb_0 {w : Cond} (i : Nat) (h : (k2_sels lw_privs)[i]? = some w) : w ∈ lw_tbl := List.mem_append_left _ (List.mem_of_getElem? h)
theorem tb_1 {w : Cond} (i : Nat) (h : tables_1_1[i]? = some w) : w ∈ lw_tbl := List.mem_append_right _ (List.mem_append_left _ (List.mem_of_getElem? h))
theorem tb_2 {w : Cond} (i : Nat) (h : tables_1_2[i]? = some w) : w ∈ lw_tbl := List.mem_append_right _ (List.mem_append_right _ (List.mem_append_left _ (List.mem_of_getElem? h)))
theorem tb_3 {w : Cond} (i : Nat) (h : tables_1_3[i]? = some w) : w ∈ lw_tbl := List.mem_append_right _ (List.mem_append_right _ (List.mem_append_right _ (List.mem_append_left _ (List.mem_of_getElem? h))))
theorem tb_4 {w : Cond} (i : Nat) (h : tables_1_4[i]? = some w) : w ∈ lw_tbl := List.mem_append_right _ (List.mem_append_right _ (List.mem_append_right _ (List.mem_append_right _ (List.mem_append_left _ (List.mem_of_getElem? h)))))
theorem tb_5 {w : Cond} (i : Nat) (h : tables_1_5[i]? = some w) : w ∈ lw_tbl := List.mem_append_right _ (List.mem_append_right _ (List.mem_append_right _ (List.mem_append_right _ (List.mem_append_right _ (List.mem_of_getElem? h)))))
theorem tb_goodIn {y : Cond} (hy : y ∈ TB) : GoodIn TB (y :: TB) := fun w hw => by
  have hm : w ∈ TB := (List.mem_cons.mp hw).elim (fun e => e ▸ hy) id
  exact ⟨hm, good_of_word (List.mem_filter.mp hm).2⟩
theorem tn_warm {s U : State} (hW : s.WarmedH U.vm) (h : ∀ w ∈ TN, va_Nw w s) : ∀ w ∈ TN, va_Nw w U := fun w hw => by
  have h1 := (List.mem_filter.mp hw).2
  have h2 := h w hw
  cases w <;> first | exact va_Nw.warmM hW h2 | exact va_Nw.warmF hW h2 | exact absurd h1 (by decide) | exact absurd h1 (by simp [isNest])
theorem tn_same {s U : State} (hv : s.vm = U.vm) (h : ∀ w ∈ TN, va_Nw w s) : ∀ w ∈ TN, va_Nw w U := fun w hw => by
  have h1 := (List.mem_filter.mp hw).2
  have h2 := h w hw
  have h3 : w.onTables = true := by
    cases w <;> first | rfl | exact absurd h1 (by simp [isNest])
  exact va_Nw.same h3 hv h2
/-! what a method may take as known of the tables and of the statics: G = (class numbers, array classes, static addresses) -/
abbrev GP : Type := va_G × (Nat → ClassId) × (Nat → Nat)
def tysG (G : GP) : List (ClassId × FieldType) := [(G.2.1 0, .int), (G.2.1 1, .long), (G.2.1 2, .boolean), (G.2.1 3, .byte), (G.2.1 4, .array .int), (G.2.1 5, .object RX8)]
def hgtI (j : Nat) : Int32 := match j with
  | 0 => 6
  | 1 => 3
  | 2 => 3
  | 3 => 6
  | 4 => 4
  | _ => 6
def hdsI (j : Nat) : Int32 := match j with
  | 0 => 1
  | 1 => 1
  | 2 => 1
  | 3 => 0
  | 4 => 2
  | _ => 2
def hgtV (j : Nat) : Value := .int (hgtI j)
def hdsV (j : Nat) : Value := .int (hdsI j)
def kindB : List (List Int32) := [[109, 99, 107, 115, 97, 116]]
def va_AOA (ty : FieldType) (U : State) : Prop := (Cond.arrayOver (.array ty)).before #[] U = true
theorem va_AOA.use {ty : FieldType} {A : Array Value} {U : State} (h : va_AOA ty U) : (Cond.arrayOver (.array ty)).before A U = true := h
theorem va_AOA.moved {ty : FieldType} {u U : State} (hvm : u.vm.Alike U.vm) (h : va_AOA ty u) : va_AOA ty U := by
  unfold va_AOA Cond.before Cond.holds at h ⊢
  simp only [Cond.value, beq_iff_eq] at h ⊢
  cases hc : u.vm.findClass (FieldType.array ty).toString with
  | none => simp [hc] at h
  | some comp =>
    simp only [hc, Option.bind_some, Option.bind_eq_some_iff, Option.map_eq_some_iff] at h
    obtain ⟨c, hi, k, hk, hb⟩ := h
    obtain ⟨k', hk', he⟩ := hvm.2.2 _ _ hk
    have hcomp' : U.vm.findClass (FieldType.array ty).toString = some comp := by rw [hvm.findClass]; exact hc
    have hkind : k'.kind = k.kind := by rw [he]
    rw [hcomp', Option.bind_some, Option.bind_eq_some_iff]
    refine ⟨c, (hvm.findIdx?_eqK _ (fun _ => rfl)).trans hi, ?_⟩
    rw [hk', Option.map_some, hkind, hvm.findClass]
    exact congrArg some hb
def Gx (G : GP) (A : Nat → Prop) (U : State) : Prop :=
  va_K G.1 vwCl (tysG G) U ∧ (∀ w ∈ TN, va_Nw w U) ∧
  (va_Z RX10 "HEIGHT_OF_KIND" "[I" (.ref (G.2.2 0)) A U U.heap ∧ va_T .int (G.2.2 0) 6 hgtV A U U.heap) ∧
  (va_Z RX10 "HEADS_OF_KIND" "[I" (.ref (G.2.2 1)) A U U.heap ∧ va_T .int (G.2.2 1) 6 hdsV A U U.heap) ∧
  va_Z RJ0 "COMPACT_STRINGS" "Z" (.int 1) A U U.heap ∧ vk_S 1 [6] kindB (fun _ => G.2.2 2) (fun _ => G.2.2 3) A U U.heap ∧ vk_R RX5 52 "mcksat" (G.2.2 2) U ∧ va_AO RX8 U ∧ va_AOA .int U
theorem Gx.go {G : GP} {A B : Nat → Prop} {s U : State} {H : Heap} {locs : List Loc} (hG : Gx G A s) (hS : va_S A s.heap H locs) (hU : U.heap = H) (hW : s.WarmedH U.vm) (hB : ∀ q, B q → A q) : Gx G B U := by
  subst hU
  obtain ⟨h1, h2, ⟨h3, h4⟩, ⟨h5, h6⟩, h7, h8, h9, h10, h11⟩ := hG
  have ha := hW.alike
  exact ⟨va_K.moved ha h1, tn_warm hW h2, ⟨va_Z.moved ha ((h3.kept hS.2.1).narrow hB), va_T.moved ha ((h4.kept hS.2.1).narrow hB)⟩, ⟨va_Z.moved ha ((h5.kept hS.2.1).narrow hB), va_T.moved ha ((h6.kept hS.2.1).narrow hB)⟩, va_Z.moved ha ((h7.kept hS.2.1).narrow hB), vk_S.moved ha ((h8.kept hS.2.1).narrow hB), vk_R.warm hW h9, va_AO.moved ha h10, va_AOA.moved ha h11⟩
theorem Gx.same {G : GP} {A : Nat → Prop} {u U : State} (hh : U.heap = u.heap) (hv : U.vm = u.vm) (hG : Gx G A u) : Gx G A U := by
  obtain ⟨h1, h2, ⟨h3, h4⟩, ⟨h5, h6⟩, h7, h8, h9, h10, h11⟩ := hG
  have ha : u.vm.Alike U.vm := by rw [hv]; exact Vm.Alike.refl u.vm
  refine ⟨va_K.moved ha h1, tn_same hv.symm h2, ⟨?_, ?_⟩, ⟨?_, ?_⟩, ?_, ?_, vk_R.same hv h9, va_AO.moved ha h10, va_AOA.moved ha h11⟩
  · rw [hh]; exact va_Z.moved ha h3
  · rw [hh]; exact va_T.moved ha h4
  · rw [hh]; exact va_Z.moved ha h5
  · rw [hh]; exact va_T.moved ha h6
  · rw [hh]; exact va_Z.moved ha h7
  · rw [hh]; exact vk_S.moved ha h8
/-! contracts -/
def RM (d : Nat) : Room := { frames := d, cells := 0, slots := 0, locals := 40 * d }
def Cp (G : GP) (av : List Value) (w : va_W) (sz : Nat) : Array Value → State → Prop := va_Pc av (fun U => U.heap.size = sz ∧ va_P G.1 vwCl w U.heap ∧ Gx G (va_A w sz) U ∧ va_D (fun _ => True) w)
def QC (G : GP) (w' : va_W) (rv : Option Value) (A : Nat → Prop) : Array Value → State → Outcome → State → Prop := fun _ st oc t => (oc = .returned rv ∧ va_P G.1 vwCl w' t.heap ∧ va_D A w') ∧ va_F A st t
/-- the method y, on the arguments av over the cells w: it returns rv and leaves the cells w' -/
def CC (l : Launch) (G : GP) (y : MethodName) (cc : ByteArray) (maxL : Nat) (ret : Option FieldType) (d : Nat) (av : List Value) (w w' : va_W) (rv : Option Value) : Prop :=
  ∀ sz : Nat, Met l y (Cond.code y cc maxL ret :: TB) (RM d) (Cp G av w sz) (QC G w' rv (va_A w sz)) 0 0 (va_A w sz)
def Cx (p : Program) (s : State) (m : MethodId) (meth : Method) (c : Code) (G : GP) (cc : ByteArray) (own : String) (nL : Nat) (ret : Option FieldType) (args : Array Value) (A : Nat → Prop) : Prop :=
  p.tables.exec = Jvm.exec ∧ c.code = cc ∧ meth.sig.returnType = ret ∧ c.maxLocals = nL ∧ (∀ w ∈ TB, w.before args s = true) ∧ s.vm.findClass own = some m.cls ∧ meth.locks = false ∧ (∀ q : Nat, s.heap.size ≤ q → A q) ∧ Gx G A s
def QQ (below : List Frame) (G : GP) (args : Array Value) (s : State) (w' : va_W) (rv : Option Value) (A : Nat → Prop) : State → Prop := MQ below (QC G w' rv A) args s 0 0 A
theorem Cp.blind {G : GP} {av : List Value} {w : va_W} {sz : Nat} : FrameBlind (Cp G av w sz) := fun _ U _ _ q => ⟨q.1, q.2.1, q.2.2.1, Gx.same (u := U) rfl rfl q.2.2.2.1, q.2.2.2.2⟩
theorem CC.of {l : Launch} {G : GP} {y : MethodName} {cc : ByteArray} {maxL : Nat} {ret : Option FieldType} {d : Nat} {av : List Value} {w w' : va_W} {rv : Option Value} (hy : plainName y.cls = true) (hn : (lg_sl av).length ≤ maxL)
    (body : ∀ (p : Program) (e : Env) (s : State) (m : MethodId) (below : List Frame) (meth : Method) (c : Code) (A : Nat → Prop), Cx p s m meth c G cc y.cls maxL ret av.toArray A → va_P G.1 vwCl w s.heap → va_D A w → va_S A s.heap s.heap [] → ∀ ls : Array Slot, lv_has ls maxL (lv_args 0 av) →
      W p l e (RM d) s m av.toArray below meth c s.heap [] 0 0 (QQ below G av.toArray s w' rv A) (F0 m 0 ls [])) : CC l G y cc maxL ret d av w w' rv := by
  intro sz
  refine Met.ofW (cc := cc) (maxL := maxL) (ret := ret) hy rfl ?_
  intro p e s m args below meth c s₁ B hml hv
  obtain ⟨rfl, hsz, hP, hG, hD0⟩ := hv
  subst hsz
  have hts := atoms_spec (ws := Cond.code y cc maxL ret :: TB) B.pre
  rw [lg_entry_eq]
  exact body p e s m below meth c (va_A w s.heap.size) ⟨B.exec, B.bytes, B.returns, hml, fun w hw => hts w (List.mem_cons_of_mem _ hw), findClass_of_methodNamed B.named, B.notSynchronized, fun q h => Or.inr h, hG⟩ hP hD0.self va_S.rf _ (lv_entry av hn)
/-! naming, and the residue of a program -/
def nm {α β : Type} (x : α) (k : α → Option β) : Option β := k x
theorem nm_ex {α β : Type} {x : α} {k : α → Option β} {r : β} (h : nm x k = some r) : ∃ y, y = x ∧ k y = some r := ⟨x, rfl, h⟩
theorem bd_ex {α β : Type} {x : Option α} {k : α → Option β} {r : β} (h : x.bind k = some r) : ∃ y, x = some y ∧ k y = some r := by
  cases x with
  | none => cases h
  | some y => exact ⟨y, rfl, h⟩
theorem if_t {α : Type} {c : Prop} [Decidable c] {a b r : α} (hc : c) (h : (if c then a else b) = r) : a = r := by rw [if_pos hc] at h; exact h
theorem if_f {α : Type} {c : Prop} [Decidable c] {a b r : α} (hc : ¬ c) (h : (if c then a else b) = r) : b = r := by rw [if_neg hc] at h; exact h
/-- a check that didn't fail -/
theorem ck {β : Type} {c : Prop} [Decidable c] {a : Option β} {r : β} (h : (if c then none else a) = some r) : ¬ c ∧ a = some r := by
  by_cases hc : c
  · rw [if_pos hc] at h; cases h
  · rw [if_neg hc] at h; exact ⟨hc, h⟩
theorem sm {α : Type} {a b : α} (h : some a = some b) : a = b := Option.some.inj h
/-! states of the objects: ints, int arrays, longs, long arrays, each by its place -/
abbrev ST : Type := (Nat → Int32) × (Nat → Nat → Int32) × (Nat → Int64) × (Nat → Nat → Int64)
def sI (σ : ST) (k : Nat) (v : Int32) : ST := (fun j => if j = k then v else σ.1 j, σ.2)
def sA (σ : ST) (k : Nat) (i : Nat) (v : Int32) : ST := (σ.1, fun j => if j = k then upd (σ.2.1 k) i v else σ.2.1 j, σ.2.2)
def sW (σ : ST) (k : Nat) (f : Nat → Int32) : ST := (σ.1, fun j => if j = k then f else σ.2.1 j, σ.2.2)
def sJ (σ : ST) (k : Nat) (v : Int64) : ST := (σ.1, σ.2.1, fun j => if j = k then v else σ.2.2.1 j, σ.2.2.2)
def sL (σ : ST) (k : Nat) (i : Nat) (v : Int64) : ST := (σ.1, σ.2.1, σ.2.2.1, fun j => if j = k then vp_updL (σ.2.2.2 k) i v else σ.2.2.2 j)
/-! the frame: what came back is put at its places -/
def putAll (ws : va_W) : List Nat → va_W → va_W
  | i :: is, c :: cs => putAll (ws.set i c) is cs
  | _, _ => ws
theorem putAll_out : ∀ (is : List Nat) (cs ws : va_W) (k : Nat), k ∉ is → (putAll ws is cs)[k]? = ws[k]?
  | [], cs, _, _, _ => by cases cs <;> rfl
  | _ :: _, [], _, _, _ => rfl
  | i :: is, c :: cs, ws, k, h => by
    rw [putAll, putAll_out is cs _ k (fun q => h (List.mem_cons_of_mem _ q))]
    exact List.getElem?_set_ne (fun e => h (by rw [e]; exact List.mem_cons_self))
theorem putAll_in : ∀ (is : List Nat) (cs ws : va_W) (j k : Nat), va_nd is = true → is.length = cs.length → (∀ i ∈ is, i < ws.length) → is[j]? = some k → (putAll ws is cs)[k]? = cs[j]?
  | [], _, _, j, k, _, _, _, h => by simp at h
  | _ :: _, [], _, _, _, _, hl, _, _ => by simp at hl
  | i :: is, c :: cs, ws, j, k, hn, hl, hb, h => by
    rw [putAll]
    simp only [va_nd, Bool.and_eq_true, decide_eq_true_eq] at hn
    cases j with
    | zero =>
      rw [List.getElem?_cons_zero] at h
      cases h
      rw [putAll_out is cs _ _ hn.1, List.getElem?_set_self (hb _ List.mem_cons_self), List.getElem?_cons_zero]
    | succ j =>
      rw [List.getElem?_cons_succ] at h ⊢
      exact putAll_in is cs _ j k hn.2 (by simpa using hl) (fun q hq => by rw [List.length_set]; exact hb q (List.mem_cons_of_mem _ hq)) h
theorem pl_at {ws w : va_W} {is : List Nat} (hs : is.map (fun i => ws[i]?) = w.map some) {k : Nat} {q : Nat × va_E} (hq : w[k]? = some q) : ∃ i, is[k]? = some i ∧ ws[i]? = some q := by
  have h1 : (is.map (fun i => ws[i]?))[k]? = some (some q) := by rw [hs, List.getElem?_map, hq]; rfl
  rw [List.getElem?_map] at h1
  cases hi : is[k]? with
  | none => rw [hi] at h1; cases h1
  | some i => rw [hi] at h1; exact ⟨i, rfl, Option.some.inj h1⟩
theorem pl_to {ws w : va_W} {is : List Nat} (hs : is.map (fun i => ws[i]?) = w.map some) {k i : Nat} (hi : is[k]? = some i) : ∃ q, w[k]? = some q ∧ ws[i]? = some q := by
  have h1 : (is.map (fun i => ws[i]?))[k]? = some (ws[i]?) := by rw [List.getElem?_map, hi]; rfl
  rw [hs, List.getElem?_map] at h1
  cases hw : w[k]? with
  | none => rw [hw] at h1; cases h1
  | some q => rw [hw] at h1; exact ⟨q, rfl, (Option.some.inj h1).symm⟩
theorem nd_inj {is : List Nat} (hn : va_nd is = true) {i j k : Nat} (h1 : is[i]? = some k) (h2 : is[j]? = some k) : i = j := va_nd_inj is hn i j k h1 h2
theorem fr_P {D : va_G} {cl : List vw_C} {ws w : va_W} {H : Heap} (hP : va_P D cl ws H) {is : List Nat} (hs : is.map (fun i => ws[i]?) = w.map some) : va_P D cl w H := fun k q hq => by
  obtain ⟨i, -, h⟩ := pl_at hs hq
  exact hP i q h
theorem fr_D {A : Nat → Prop} {ws w : va_W} (hD : va_D A ws) {is : List Nat} (hn : va_nd is = true) (hs : is.map (fun i => ws[i]?) = w.map some) : va_D (fun _ => True) w := by
  refine ⟨fun i j x y hi hj hxy => ?_, fun _ _ _ => trivial⟩
  obtain ⟨a, ha, h1⟩ := pl_at hs hi
  obtain ⟨b, hb, h2⟩ := pl_at hs hj
  have e := hD.1 a b x y h1 h2 hxy
  subst e
  exact nd_inj hn ha hb
theorem fr_put {A : Nat → Prop} {D : va_G} {cl : List vw_C} {ws wc w1 : va_W} {H H1 : Heap} (hP : va_P D cl ws H) (hD : va_D A ws) {is : List Nat} (hn : va_nd is = true) (hs : is.map (fun i => ws[i]?) = wc.map some) (had : w1.map (fun q => q.1) = wc.map (fun q => q.1))
    (hk : ∀ q : Nat, q < H.size → ¬ va_A wc H.size q → H1[q]? = H[q]?) (hP1 : va_P D cl w1 H1) : va_P D cl (putAll ws is w1) H1 ∧ va_D A (putAll ws is w1) := by
  have hl : is.length = w1.length := by
    have e1 := congrArg List.length hs
    have e2 := congrArg List.length had
    simp only [List.length_map] at e1 e2
    omega
  have hb : ∀ i ∈ is, i < ws.length := fun i hi => by
    obtain ⟨k, hk⟩ := List.getElem?_of_mem hi
    obtain ⟨q, -, h⟩ := pl_to hs hk
    exact (List.getElem?_eq_some_iff.mp h).1
  have key : ∀ (k : Nat) (q : Nat × va_E), (putAll ws is w1)[k]? = some q → (∃ j, is[j]? = some k ∧ w1[j]? = some q) ∨ (k ∉ is ∧ ws[k]? = some q) := fun k q h => by
    by_cases hki : k ∈ is
    · obtain ⟨j, hj⟩ := List.getElem?_of_mem hki
      rw [putAll_in is w1 ws j k hn hl hb hj] at h
      exact Or.inl ⟨j, hj, h⟩
    · rw [putAll_out is w1 ws k hki] at h
      exact Or.inr ⟨hki, h⟩
  have key2 : ∀ (k : Nat) (q : Nat × va_E), (putAll ws is w1)[k]? = some q → ∃ q', ws[k]? = some q' ∧ q'.1 = q.1 := fun k q h => by
    rcases key k q h with ⟨j, hj, hq⟩ | ⟨-, hq⟩
    · obtain ⟨q', h1, h2⟩ := pl_to hs hj
      refine ⟨q', h2, ?_⟩
      have e := congrArg (fun l => l[j]?) had
      simp only [List.getElem?_map, hq, h1, Option.map_some] at e
      exact (Option.some.inj e).symm
    · exact ⟨q, hq, rfl⟩
  refine ⟨fun k q h => ?_, fun i j x y hi hj hxy => ?_, fun k q h => ?_⟩
  · rcases key k q h with ⟨j, -, hq⟩ | ⟨hki, hq⟩
    · exact hP1 j q hq
    · refine (hP k q hq).kept (hk q.1 (hP k q hq).lt (fun h => ?_))
      rcases h with ⟨k2, e, h⟩ | h
      · obtain ⟨i, hi, h4⟩ := pl_at hs h
        have hij := hD.1 k i q (q.1, e) hq h4 rfl
        subst hij
        exact hki (List.mem_of_getElem? hi)
      · exact absurd (hP k q hq).lt (by omega)
  · obtain ⟨x', h1, e1⟩ := key2 i x hi
    obtain ⟨y', h2, e2⟩ := key2 j y hj
    exact hD.1 i j x' y' h1 h2 (by rw [e1, e2]; exact hxy)
  · obtain ⟨q', h1, e1⟩ := key2 k q h
    rw [← e1]
    exact hD.2 k q' h1
section BASE
variable {p : Program} {l : Launch} {e : Env} {R : Room} {s : State} {m : MethodId} {args : Array Value} {below : List Frame} {meth : Method} {c : Code} {H : Heap} {locs : List Loc} {cells slots : Nat} {Q : State → Prop}
variable {G : GP} {cc cc' : ByteArray} {own C : String} {nL maxL n index d pc : Nat} {ret ret' : Option FieldType} {A : Nat → Prop} {ls : Array Slot} {rest : List Value} {w w' w1 ws : va_W} {rv : Option Value} {y : MethodName} {av : List Value} {H0 : Heap}
theorem rt_i {r : Int32} (K : Cx p s m meth c G cc own nL (some .int) args A) (hP : va_P G.1 vwCl w' H) (hD : va_D A w') (hS : va_S A s.heap H locs) (hdg : decode cc pc = .ok (.ireturn, 1)) :
    W p l e R s m args below meth c H locs 0 0 (QQ below G args s w' (some (.int r)) A) (F0 m pc ls [.int r]) := by
  obtain ⟨hx, hb, hr, -, -, -, hlocks, -, -⟩ := K
  exact W.iret hx hb hr (fun t ht _ => ⟨⟨rfl, by rw [ht]; exact hP, hD⟩, hS.F ht⟩) hS.2.2 hdg hlocks
theorem nz_bool {r : Int32} (h : r = 0 ∨ r = 1) : narrow .boolean (.int r) = .int r := by rcases h with rfl | rfl <;> rfl
theorem rt_z {r : Int32} (K : Cx p s m meth c G cc own nL (some .boolean) args A) (hz : r = 0 ∨ r = 1) (hP : va_P G.1 vwCl w' H) (hD : va_D A w') (hS : va_S A s.heap H locs) (hdg : decode cc pc = .ok (.ireturn, 1)) :
    W p l e R s m args below meth c H locs 0 0 (QQ below G args s w' (some (.int r)) A) (F0 m pc ls [.int r]) := by
  obtain ⟨hx, hb, hr, -, -, -, hlocks, -, -⟩ := K
  exact W.zret hx hb hr (nz_bool hz) (fun t ht _ => ⟨⟨rfl, by rw [ht]; exact hP, hD⟩, hS.F ht⟩) hS.2.2 hdg hlocks
theorem rt_l {r : Int64} (K : Cx p s m meth c G cc own nL (some .long) args A) (hP : va_P G.1 vwCl w' H) (hD : va_D A w') (hS : va_S A s.heap H locs) (hdg : decode cc pc = .ok (.lreturn, 1)) :
    W p l e R s m args below meth c H locs 0 0 (QQ below G args s w' (some (.long r)) A) (F0 m pc ls [.long r]) := by
  obtain ⟨hx, hb, hr, -, -, -, hlocks, -, -⟩ := K
  exact W.lret hx hb hr (fun t ht _ => ⟨⟨rfl, by rw [ht]; exact hP, hD⟩, hS.F ht⟩) hS.2.2 hdg hlocks
theorem rt_v (K : Cx p s m meth c G cc own nL none args A) (hP : va_P G.1 vwCl w' H) (hD : va_D A w') (hS : va_S A s.heap H locs) (hdg : decode cc pc = .ok (.return_, 1)) :
    W p l e R s m args below meth c H locs 0 0 (QQ below G args s w' none A) (F0 m pc ls []) := by
  obtain ⟨hx, hb, hr, -, -, -, hlocks, -, -⟩ := K
  exact W.vret hx hb hr (fun t ht _ => ⟨⟨rfl, by rw [ht]; exact hP, hD⟩, hS.F ht⟩) hS.2.2 hdg hlocks
theorem va_callg {mc ms : Nat} {a : Array Value} {A0 A1 : Nat → Prop} {free : Addr → Prop} {st0 : List Value} (hr : va_Run p l e R s m args below meth c H locs cells slots mc ms (F0 m pc ls st0) rest (QC G w1 rv A1 a) free) (hS : va_S A0 H0 H locs) (hA : ∀ q, q < H.size → A1 q → A0 q) (hf : ∀ q, free q → A0 q)
    (kk : ∀ (H1 : Heap) (locs1 : List Loc), va_P G.1 vwCl w1 H1 → va_D A1 w1 → (∀ q : Nat, q < H.size → ¬ A1 q → H1[q]? = H[q]?) → va_S A0 H0 H1 locs1 → W p l e R s m args below meth c H1 locs1 (cells + mc) (slots + ms) Q (F0 m (pc + 3) ls (rv.toList ++ rest))) : W p l e R s m args below meth c H locs cells slots Q (F0 m pc ls st0) := by
  intro T hT X
  obtain ⟨v, st₀, t, T', L, h0, X', hL, e1, e2, ⟨⟨hv, hp, hd⟩, hz, hk⟩, st⟩ := hr T hT X
  cases hv
  rw [h0] at hz hk
  obtain ⟨t2, a1, b1⟩ := kk T'.heap (locs ++ L) (by rw [e1]; exact hp) hd (fun q h1 h2 => by rw [e1]; exact hk q h1 h2)
    ⟨Nat.le_trans hS.1 (by rw [e1]; exact hz), fun q h1 h2 => by rw [e1, hk q (Nat.lt_of_lt_of_le h1 hS.1) (fun z => h2 (hA q (Nat.lt_of_lt_of_le h1 hS.1) z))]; exact hS.2.1 q h1 h2, fun q hq => by
      rcases List.mem_append.mp hq with h | h
      · exact hS.2.2 q h
      · exact hf _ (hL q h)⟩ T' rfl X'
  exact ⟨t2, st t2 a1, b1⟩
theorem fr_free {is : List Nat} (hs : is.map (fun i => ws[i]?) = w.map some) (hD : va_D A ws) (hS : va_S A s.heap H locs) (hA : ∀ q : Nat, s.heap.size ≤ q → A q) : ∀ q, va_A w H.size q → A q := va_free hD hS hA is hs
theorem fr_pre {is : List Nat} (K : Cx p s m meth c G cc own nL ret args A) (hP : va_P G.1 vwCl ws H) (hD : va_D A ws) (hS : va_S A s.heap H locs) (hn : va_nd is = true) (hs : is.map (fun i => ws[i]?) = w.map some) : PreS s H (Cp G av w H.size) av :=
  ⟨Cp.blind, fun U hU hW => ⟨rfl, by rw [hU], by rw [hU]; exact fr_P hP hs, K.2.2.2.2.2.2.2.2.go hS hU hW (fr_free hs hD hS K.2.2.2.2.2.2.2.1), fr_D hD hn hs⟩⟩
abbrev CallD (y : MethodName) (n : Nat) : Prop := y.cls ≠ "java/lang/invoke/MethodHandle" ∧ y.cls ≠ "java/lang/invoke/VarHandle" ∧ (parseMethodDescriptor y.desc).map (fun d => d.parameters.length) = some n
abbrev CallR (R : Room) (d maxL : Nat) : Prop := d + 1 ≤ R.frames ∧ 8 + (maxL + 11) + 40 * d ≤ R.locals
/-- the frame behind a call -/
theorem fr_go {is : List Nat} {a : Array Value} {st0 : List Value} (K : Cx p s m meth c G cc own nL ret args A) (hP : va_P G.1 vwCl ws H) (hD : va_D A ws) (hS : va_S A s.heap H locs) (hn : va_nd is = true) (hs : is.map (fun i => ws[i]?) = w.map some) (had : w1.map (fun q => q.1) = w.map (fun q => q.1))
    (hr : va_Run p l e R s m args below meth c H locs cells slots 0 0 (F0 m pc ls st0) rest (QC G w1 rv (va_A w H.size) a) (va_A w H.size))
    (kk : ∀ (H1 : Heap) (locs1 : List Loc), va_P G.1 vwCl (putAll ws is w1) H1 → va_D A (putAll ws is w1) → va_S A s.heap H1 locs1 → W p l e R s m args below meth c H1 locs1 cells slots Q (F0 m (pc + 3) ls (rv.toList ++ rest))) : W p l e R s m args below meth c H locs cells slots Q (F0 m pc ls st0) := by
  have hF := fr_free hs hD hS K.2.2.2.2.2.2.2.1
  refine va_callg hr hS (fun q _ h => hF q h) hF (fun H1 locs1 hP1 _ hk hS1 => ?_)
  obtain ⟨a1, a2⟩ := fr_put hP hD hn hs had hk hP1
  exact kk H1 locs1 a1 a2 hS1
theorem cl_S (K : Cx p s m meth c G cc own nL ret args A) (hM : CC l G y cc' maxL ret' d av w w1 rv) (hcode : Cond.code y cc' maxL ret' ∈ TB) (hini : Cond.initialized y.cls ∈ TB) (hst : Cond.static y ∈ TB) (hlink : Cond.methodLink own index y ∈ TB) (hd : CallD y n) (hR : CallR R d maxL)
    (hP : va_P G.1 vwCl ws H) (hD : va_D A ws) (hS : va_S A s.heap H locs) (is : List Nat) (hn : va_nd is = true) (hs : is.map (fun i => ws[i]?) = w.map some) (had : w1.map (fun q => q.1) = w.map (fun q => q.1))
    (hlen : av.length = n) (hsize : ls.size = nL) (hW : (rest.map fun v => v.category).sum ≤ 8) (hf : cells ≤ R.cells ∧ slots ≤ R.slots) (hdg : decode cc pc = .ok (.invokestatic index, 3))
    (kk : ∀ (H1 : Heap) (locs1 : List Loc), va_P G.1 vwCl (putAll ws is w1) H1 → va_D A (putAll ws is w1) → va_S A s.heap H1 locs1 → W p l e R s m args below meth c H1 locs1 cells slots Q (F0 m (pc + 3) ls (rv.toList ++ rest))) : W p l e R s m args below meth c H locs cells slots Q (F0 m pc ls (av.reverse ++ rest)) := by
  have K0 := K
  obtain ⟨hx, hb, hr, hml, hts, hown, hlocks, hA, hG⟩ := K
  exact fr_go K0 hP hD hS hn hs had (va_runS ⟨hx, hb, hml, hown, hts⟩ (hM H.size) ⟨callB_of n hts (tb_goodIn hcode) rfl rfl rfl (hts _ hini) (hts _ hlink) hd hR, hts _ hst⟩ (fr_pre K0 hP hD hS hn hs) rfl hlen hsize rfl (lv_room hW) hdg hf) kk
theorem cl_SN {host : String} (K : Cx p s m meth c G cc own nL ret args A) (hM : CC l G y cc' maxL ret' d av w w1 rv) (hcode : Cond.code y cc' maxL ret' ∈ TB) (hini : Cond.initialized y.cls ∈ TB) (hst : Cond.static y ∈ TB) (hlink : Cond.methodLinkNest own index y host ∈ TN) (hd : CallD y n) (hR : CallR R d maxL)
    (hP : va_P G.1 vwCl ws H) (hD : va_D A ws) (hS : va_S A s.heap H locs) (is : List Nat) (hn : va_nd is = true) (hs : is.map (fun i => ws[i]?) = w.map some) (had : w1.map (fun q => q.1) = w.map (fun q => q.1))
    (hlen : av.length = n) (hsize : ls.size = nL) (hW : (rest.map fun v => v.category).sum ≤ 8) (hf : cells ≤ R.cells ∧ slots ≤ R.slots) (hdg : decode cc pc = .ok (.invokestatic index, 3))
    (kk : ∀ (H1 : Heap) (locs1 : List Loc), va_P G.1 vwCl (putAll ws is w1) H1 → va_D A (putAll ws is w1) → va_S A s.heap H1 locs1 → W p l e R s m args below meth c H1 locs1 cells slots Q (F0 m (pc + 3) ls (rv.toList ++ rest))) : W p l e R s m args below meth c H locs cells slots Q (F0 m pc ls (av.reverse ++ rest)) := by
  have K0 := K
  obtain ⟨hx, hb, hr, hml, hts, hown, hlocks, hA, hG⟩ := K
  exact fr_go K0 hP hD hS hn hs had (va_runSN ⟨hx, hb, hml, hown, hts⟩ (hM H.size) ⟨va_cnB n hts (tb_goodIn hcode) rfl rfl rfl (hG.2.1 _ hlink) (hts _ hini) hd hR, hts _ hst, trivial⟩ (fr_pre K0 hP hD hS hn hs) rfl hlen hsize rfl (lv_room hW) hdg hf) kk
theorem cl_V {b q0 ci : Nat} {q : vw_C} {fs As : List Value} (K : Cx p s m meth c G cc own nL ret args A) (hM : CC l G y cc' maxL ret' d (.ref b :: As) w w1 rv) (hcode : Cond.code y cc' maxL ret' ∈ TB) (hini : Cond.initialized y.cls ∈ TB) (hin : Cond.instanceMethod y ∈ TB) (hsel : Cond.selects C y y ∈ TB) (hlink : Cond.methodLink own index y ∈ TB) (hd : CallD y n) (hR : CallR R d maxL)
    (hP : va_P G.1 vwCl ws H) (hD : va_D A ws) (hS : va_S A s.heap H locs) (is : List Nat) (hn : va_nd is = true) (hs : is.map (fun i => ws[i]?) = w.map some) (had : w1.map (fun q => q.1) = w.map (fun q => q.1))
    (hq : vwCl[ci]? = some q) (hC : q.1 = C) (he : ws[q0]? = some (b, .inr (ci, fs)))
    (hlen : As.length = n) (hsize : ls.size = nL) (hW : (rest.map fun v => v.category).sum ≤ 8) (hf : cells ≤ R.cells ∧ slots ≤ R.slots) (hdg : decode cc pc = .ok (.invokevirtual index, 3))
    (kk : ∀ (H1 : Heap) (locs1 : List Loc), va_P G.1 vwCl (putAll ws is w1) H1 → va_D A (putAll ws is w1) → va_S A s.heap H1 locs1 → W p l e R s m args below meth c H1 locs1 cells slots Q (F0 m (pc + 3) ls (rv.toList ++ rest))) : W p l e R s m args below meth c H locs cells slots Q (F0 m pc ls (As.reverse ++ .ref b :: rest)) := by
  have K0 := K
  obtain ⟨hx, hb, hr, hml, hts, hown, hlocks, hA, hG⟩ := K
  subst hC
  have hpre := fr_pre (av := .ref b :: As) K0 hP hD hS hn hs
  exact fr_go K0 hP hD hS hn hs had (va_runV ⟨hx, hb, hml, hown, hts⟩ (hM H.size) ⟨callB_of n hts (tb_goodIn hcode) rfl rfl rfl (hts _ hini) (hts _ hlink) hd hR, hts _ hin, hts _ hsel⟩ ⟨hpre.1, va_recv hG.1 hP hq he, hpre.2⟩ rfl hlen hsize rfl (lv_room hW) hdg hf) kk
end BASE
