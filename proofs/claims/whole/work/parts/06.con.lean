/-! CONSTRUCTORS: cells come; their addresses are given by u -/
def z0 : ST := (fun _ => 0, fun _ _ => 0, fun _ => 0, fun _ _ => 0)
def RN (d mc ms : Nat) : Room := { frames := d, cells := mc, slots := ms, locals := 40 * d }
abbrev AU : Type := Nat → Nat → Nat
def QN (G : GP) (q : Nat) (w' : AU → List va_W) (A : Nat → Prop) : Array Value → State → Outcome → State → Prop := fun _ st oc t => (oc = .returned none ∧ ∃ u : AU, u 0 0 = q ∧ va_P G.1 vwCl (List.flatten (w' u)) t.heap ∧ va_D A (List.flatten (w' u))) ∧ va_F A st t
def CN (l : Launch) (G : GP) (y : MethodName) (cc : ByteArray) (d mc ms : Nat) (q : Nat) (w : va_W) (w' : AU → List va_W) : Prop :=
  ∀ sz : Nat, Met l y (Cond.code y cc 1 none :: TB) (RN d mc ms) (Cp G [.ref q] w sz) (QN G q w' (va_A w sz)) mc ms (va_A w sz)
def QM (below : List Frame) (G : GP) (args : Array Value) (s : State) (q : Nat) (w' : AU → List va_W) (mc ms : Nat) (A : Nat → Prop) : State → Prop := MQ below (QN G q w' A) args s mc ms A
theorem CN.of {l : Launch} {G : GP} {y : MethodName} {cc : ByteArray} {d mc ms q : Nat} {w : va_W} {w' : AU → List va_W} (hy : plainName y.cls = true)
    (body : ∀ (p : Program) (e : Env) (s : State) (m : MethodId) (below : List Frame) (meth : Method) (c : Code) (A : Nat → Prop), Cx p s m meth c G cc y.cls 1 none #[.ref q] A → meth.name = y.name → va_P G.1 vwCl w s.heap → va_D A w → va_S A s.heap s.heap [] → ∀ ls : Array Slot, lv_has ls 1 [(0, .ref q)] →
      W p l e (RN d mc ms) s m #[.ref q] below meth c s.heap [] 0 0 (QM below G #[.ref q] s q w' mc ms A) (F0 m 0 ls [])) : CN l G y cc d mc ms q w w' := by
  intro sz
  refine Met.ofW (cc := cc) (maxL := 1) (ret := none) hy rfl ?_
  intro p e s m args below meth c s₁ B hml hv
  obtain ⟨rfl, hsz, hP, hG, hD0⟩ := hv
  subst hsz
  have hts := atoms_spec (ws := Cond.code y cc 1 none :: TB) B.pre
  rw [lg_entry_eq]
  exact body p e s m below meth c (va_A w s.heap.size) ⟨B.exec, B.bytes, B.returns, hml, fun w hw => hts w (List.mem_cons_of_mem _ hw), findClass_of_methodNamed B.named, B.notSynchronized, fun q h => Or.inr h, hG⟩ (name_of_methodNamed B.named B.method).1 hP hD0.self va_S.rf _ (lv_entry [.ref q] (Nat.le_of_ble_eq_true rfl))
theorem ca_eq {G : GP} {U : State} {cA : ClassId} {ty : FieldType} (k : Nat) {c0 : ClassId} (hk : (tysG G)[k]? = some (c0, ty)) (hK : va_K G.1 vwCl (tysG G ++ [(cA, ty)]) U) (hr : ∀ c : ClassId, va_RA U c ty → U.vm.findClass ("[" ++ ty.toString) = some c) : cA = c0 := by
  have h1 := (hK.2 6 (cA, ty) rfl).2
  have h2 := (hK.2 k (c0, ty) (by
    have hl := (List.getElem?_eq_some_iff.mp hk).1
    rw [List.getElem?_append_left hl]
    exact hk)).2
  exact Option.some.inj ((hr cA h1).symm.trans (hr c0 h2))
theorem fl_snoc {D : va_G} {cl : List vw_C} {Ws : List va_W} {c : Nat × va_E} {H : Heap} (h : va_P D cl (List.flatten Ws ++ [c]) H) : va_P D cl (List.flatten (Ws ++ [[c]])) H := by
  rw [List.flatten_append]
  simpa using h
theorem fl_snocD {A : Nat → Prop} {Ws : List va_W} {c : Nat × va_E} (h : va_D A (List.flatten Ws ++ [c])) : va_D A (List.flatten (Ws ++ [[c]])) := by
  rw [List.flatten_append]
  simpa using h
section CON
variable {p : Program} {l : Launch} {e : Env} {R : Room} {s : State} {m : MethodId} {args : Array Value} {below : List Frame} {meth : Method} {c : Code} {H : Heap} {locs : List Loc} {cells slots : Nat} {Q : State → Prop}
variable {G : GP} {cc cc' : ByteArray} {own : String} {nL index d pc mc ms : Nat} {ret : Option FieldType} {A : Nat → Prop} {ls : Array Slot} {rest : List Value} {pre : List va_W} {w' : AU → List va_W} {y : MethodName} {b q ci : Nat} {fs : List Value}
theorem rt_n0 (K : Cx p s m meth c G cc own nL none args A) (u : AU) (hu : u 0 0 = q) (hP : va_P G.1 vwCl (List.flatten (w' u)) H) (hD : va_D A (List.flatten (w' u))) (hS : va_S A s.heap H locs) (hdg : decode cc pc = .ok (.return_, 1)) :
    W p l e R s m args below meth c H locs cells slots (QM below G args s q w' cells slots A) (F0 m pc ls []) := by
  obtain ⟨hx, hb, hr, -, -, -, hlocks, -, -⟩ := K
  exact W.vret hx hb hr (fun t ht _ => ⟨⟨rfl, u, hu, by rw [ht]; exact hP, hD⟩, hS.F ht⟩) hS.2.2 hdg hlocks
theorem nw_join {w1 : List va_W} {H1 : Heap} (hP : va_P G.1 vwCl (List.flatten (pre ++ [[(b, .inr (ci, fs))]])) H) (hD : va_D A (List.flatten (pre ++ [[(b, .inr (ci, fs))]]))) (hF : ∀ q, va_A [(b, .inr (ci, fs))] H.size q → A q)
    (hk : ∀ q : Nat, q < H.size → ¬ va_A [(b, .inr (ci, fs))] H.size q → H1[q]? = H[q]?) (hP1 : va_P G.1 vwCl (List.flatten w1) H1) (hD1 : va_D (va_A [(b, .inr (ci, fs))] H.size) (List.flatten w1)) : va_P G.1 vwCl (List.flatten (pre ++ w1)) H1 ∧ va_D A (List.flatten (pre ++ w1)) := by
  rw [List.flatten_append] at hP hD ⊢
  have h0 := P_iff.mp hP
  have hd := D_iff.mp hD
  have hd1 := D_iff.mp hD1
  have hpw := List.pairwise_append.mp hd.1
  have out : ∀ x ∈ List.flatten pre, x.1 < H.size ∧ ¬ va_A [(b, .inr (ci, fs))] H.size x.1 := fun x hx => by
    have hl := (h0 x (List.mem_append_left _ hx)).lt
    refine ⟨hl, fun h => ?_⟩
    rcases h with ⟨k, e, h⟩ | h
    · have hm := List.mem_of_getElem? h
      have hb : (x.1, e) = (b, .inr (ci, fs)) := by simpa using hm
      exact hpw.2.2 x hx (b, .inr (ci, fs)) (by simp) (by cases hb; rfl)
    · omega
  refine ⟨P_iff.mpr (fun x hx => ?_), D_iff.mpr ⟨List.pairwise_append.mpr ⟨hpw.1, hd1.1, fun x hx z hz e => ?_⟩, fun x hx => ?_⟩⟩
  · rcases List.mem_append.mp hx with h | h
    · exact (h0 x (List.mem_append_left _ h)).kept (hk x.1 (out x h).1 (out x h).2)
    · exact P_iff.mp hP1 x h
  · exact (out x hx).2 (by rw [e]; exact hd1.2 z hz)
  · rcases List.mem_append.mp hx with h | h
    · exact hd.2 x (List.mem_append_left _ h)
    · exact hF x.1 (hd1.2 x h)
theorem va_callN {a : Array Value} {A0 A1 : Nat → Prop} {H0 : Heap} {free : Addr → Prop} {st0 : List Value} (hr : va_Run p l e R s m args below meth c H locs cells slots mc ms (F0 m pc ls st0) rest (QN G q w' A1 a) free) (hS : va_S A0 H0 H locs) (hA : ∀ q, q < H.size → A1 q → A0 q) (hf : ∀ q, free q → A0 q)
    (kk : ∀ (u : AU) (H1 : Heap) (locs1 : List Loc), u 0 0 = q → va_P G.1 vwCl (List.flatten (w' u)) H1 → va_D A1 (List.flatten (w' u)) → (∀ q : Nat, q < H.size → ¬ A1 q → H1[q]? = H[q]?) → va_S A0 H0 H1 locs1 → W p l e R s m args below meth c H1 locs1 (cells + mc) (slots + ms) Q (F0 m (pc + 3) ls rest)) : W p l e R s m args below meth c H locs cells slots Q (F0 m pc ls st0) := by
  intro T hT X
  obtain ⟨v, st₀, t, T', L, h0, X', hL, e1, e2, ⟨⟨hv, u, hu, hp, hd⟩, hz, hk⟩, st⟩ := hr T hT X
  cases hv
  rw [h0] at hz hk
  obtain ⟨t2, a1, b1⟩ := kk u T'.heap (locs ++ L) hu (by rw [e1]; exact hp) hd (fun q h1 h2 => by rw [e1]; exact hk q h1 h2)
    ⟨Nat.le_trans hS.1 (by rw [e1]; exact hz), fun q h1 h2 => by rw [e1, hk q (Nat.lt_of_lt_of_le h1 hS.1) (fun z => h2 (hA q (Nat.lt_of_lt_of_le h1 hS.1) z))]; exact hS.2.1 q h1 h2, fun q hq => by
      rcases List.mem_append.mp hq with h | h
      · exact hS.2.2 q h
      · exact hf _ (hL q h)⟩ T' rfl X'
  exact ⟨t2, st t2 a1, b1⟩
theorem nw_free (hD : va_D A (List.flatten (pre ++ [[(b, .inr (ci, fs))]]))) (hS : va_S A s.heap H locs) (hA : ∀ q : Nat, s.heap.size ≤ q → A q) : ∀ q, va_A [(b, .inr (ci, fs))] H.size q → A q := by
  intro q h
  rcases h with ⟨k, e, h⟩ | h
  · have hm := List.mem_of_getElem? h
    refine (D_iff.mp hD).2 (q, e) ?_
    rw [List.flatten_append]
    exact List.mem_append_right _ (by simpa using hm)
  · exact hA q (Nat.le_trans hS.1 h)
theorem nw_pre (K : Cx p s m meth c G cc own nL ret args A) (hP : va_P G.1 vwCl (List.flatten (pre ++ [[(b, .inr (ci, fs))]])) H) (hD : va_D A (List.flatten (pre ++ [[(b, .inr (ci, fs))]]))) (hS : va_S A s.heap H locs) : PreS s H (Cp G [.ref b] [(b, .inr (ci, fs))] H.size) [.ref b] :=
  ⟨Cp.blind, fun U hU hW => ⟨rfl, by rw [hU], by
    rw [hU]
    refine P_iff.mpr (fun x hx => P_iff.mp hP x ?_)
    rw [List.flatten_append]
    exact List.mem_append_right _ (by simpa using hx), K.2.2.2.2.2.2.2.2.go hS hU hW (nw_free hD hS K.2.2.2.2.2.2.2.1), D_iff.mpr ⟨by simp, fun _ _ => trivial⟩⟩⟩
theorem ln_IN {host : String} (K : Cx p s m meth c G cc own nL ret args A) (hM : CN l G y cc' d mc ms b [(b, .inr (ci, fs))] w') (hcode : Cond.code y cc' 1 none ∈ TB) (hini : Cond.initialized y.cls ∈ TB) (hin : Cond.instanceMethod y ∈ TB) (hlink : Cond.methodLinkNest own index y host ∈ TN) (hy1 : y.name = "<init>") (hd : CallD y 0) (hR : CallR R d 1)
    (hP : va_P G.1 vwCl (List.flatten (pre ++ [[(b, .inr (ci, fs))]])) H) (hD : va_D A (List.flatten (pre ++ [[(b, .inr (ci, fs))]]))) (hS : va_S A s.heap H locs)
    (hsize : ls.size = nL) (hW : (rest.map fun v => v.category).sum ≤ 8) (hf : cells + mc ≤ R.cells ∧ slots + ms ≤ R.slots) (hdg : decode cc pc = .ok (.invokespecial index, 3))
    (kk : ∀ (u : AU) (H1 : Heap) (locs1 : List Loc), u 0 0 = b → va_P G.1 vwCl (List.flatten (pre ++ w' u)) H1 → va_D A (List.flatten (pre ++ w' u)) → va_S A s.heap H1 locs1 → W p l e R s m args below meth c H1 locs1 (cells + mc) (slots + ms) Q (F0 m (pc + 3) ls rest)) : W p l e R s m args below meth c H locs cells slots Q (F0 m pc ls (.ref b :: rest)) := by
  have K0 := K
  obtain ⟨hx, hb, hr, hml, hts, hown, hlocks, hA, hG⟩ := K
  have hF := nw_free hD hS hA
  refine va_callN (va_runIN (As := []) ⟨hx, hb, hml, hown, hts⟩ (hM H.size) ⟨va_cnB 0 hts (tb_goodIn hcode) rfl rfl rfl (hG.2.1 _ hlink) (hts _ hini) hd hR, hy1, hts _ hin⟩ (nw_pre K0 hP hD hS) rfl rfl hsize rfl (lv_room hW) hdg hf) hS (fun q _ h => hF q h) hF (fun u H1 locs1 hu hP1 hD1 hk hS1 => ?_)
  obtain ⟨a1, a2⟩ := nw_join hP hD hF hk hP1 hD1
  exact kk u H1 locs1 hu a1 a2 hS1
theorem ln_I (K : Cx p s m meth c G cc own nL ret args A) (hM : CN l G y cc' d mc ms b [(b, .inr (ci, fs))] w') (hcode : Cond.code y cc' 1 none ∈ TB) (hini : Cond.initialized y.cls ∈ TB) (hin : Cond.instanceMethod y ∈ TB) (hlink : Cond.methodLink own index y ∈ TB) (hy1 : y.name = "<init>") (hd : CallD y 0) (hR : CallR R d 1)
    (hP : va_P G.1 vwCl (List.flatten (pre ++ [[(b, .inr (ci, fs))]])) H) (hD : va_D A (List.flatten (pre ++ [[(b, .inr (ci, fs))]]))) (hS : va_S A s.heap H locs)
    (hsize : ls.size = nL) (hW : (rest.map fun v => v.category).sum ≤ 8) (hf : cells + mc ≤ R.cells ∧ slots + ms ≤ R.slots) (hdg : decode cc pc = .ok (.invokespecial index, 3))
    (kk : ∀ (u : AU) (H1 : Heap) (locs1 : List Loc), u 0 0 = b → va_P G.1 vwCl (List.flatten (pre ++ w' u)) H1 → va_D A (List.flatten (pre ++ w' u)) → va_S A s.heap H1 locs1 → W p l e R s m args below meth c H1 locs1 (cells + mc) (slots + ms) Q (F0 m (pc + 3) ls rest)) : W p l e R s m args below meth c H locs cells slots Q (F0 m pc ls (.ref b :: rest)) := by
  have K0 := K
  obtain ⟨hx, hb, hr, hml, hts, hown, hlocks, hA, hG⟩ := K
  have hF := nw_free hD hS hA
  refine va_callN (va_runI (As := []) ⟨hx, hb, hml, hown, hts⟩ (hM H.size) ⟨callB_of 0 hts (tb_goodIn hcode) rfl rfl rfl (hts _ hini) (hts _ hlink) hd hR, hy1, hts _ hin⟩ (nw_pre K0 hP hD hS) rfl rfl hsize rfl (lv_room hW) hdg hf) hS (fun q _ h => hF q h) hF (fun u H1 locs1 hu hP1 hD1 hk hS1 => ?_)
  obtain ⟨a1, a2⟩ := nw_join hP hD hF hk hP1 hD1
  exact kk u H1 locs1 hu a1 a2 hS1
end CON
