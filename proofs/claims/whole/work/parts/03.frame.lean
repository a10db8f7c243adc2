/-! the frame by segments: a world is a list of segments, each a list of cells -/
def putS {α : Type} (ws : List α) : List Nat → List α → List α
  | i :: is, c :: cs => putS (ws.set i c) is cs
  | _, _ => ws
theorem putS_out {α : Type} : ∀ (is : List Nat) (cs ws : List α) (k : Nat), k ∉ is → (putS ws is cs)[k]? = ws[k]?
  | [], cs, _, _, _ => by cases cs <;> rfl
  | _ :: _, [], _, _, _ => rfl
  | i :: is, c :: cs, ws, k, h => by
    rw [putS, putS_out is cs _ k (fun q => h (List.mem_cons_of_mem _ q))]
    exact List.getElem?_set_ne (fun e => h (by rw [e]; exact List.mem_cons_self))
theorem putS_in {α : Type} : ∀ (is : List Nat) (cs ws : List α) (j k : Nat), va_nd is = true → is.length = cs.length → (∀ i ∈ is, i < ws.length) → is[j]? = some k → (putS ws is cs)[k]? = cs[j]?
  | [], _, _, j, k, _, _, _, h => by simp at h
  | _ :: _, [], _, _, _, _, hl, _, _ => by simp at hl
  | i :: is, c :: cs, ws, j, k, hn, hl, hb, h => by
    rw [putS]
    simp only [va_nd, Bool.and_eq_true, decide_eq_true_eq] at hn
    cases j with
    | zero =>
      rw [List.getElem?_cons_zero] at h
      cases h
      rw [putS_out is cs _ _ hn.1, List.getElem?_set_self (hb _ List.mem_cons_self), List.getElem?_cons_zero]
    | succ j =>
      rw [List.getElem?_cons_succ] at h ⊢
      exact putS_in is cs _ j k hn.2 (by simpa using hl) (fun q hq => by rw [List.length_set]; exact hb q (List.mem_cons_of_mem _ hq)) h
theorem ps_at {α : Type} {ws w : List α} {is : List Nat} (hs : is.map (fun i => ws[i]?) = w.map some) {k : Nat} {q : α} (hq : w[k]? = some q) : ∃ i, is[k]? = some i ∧ ws[i]? = some q := by
  have h1 : (is.map (fun i => ws[i]?))[k]? = some (some q) := by rw [hs, List.getElem?_map, hq]; rfl
  rw [List.getElem?_map] at h1
  cases hi : is[k]? with
  | none => rw [hi] at h1; cases h1
  | some i => rw [hi] at h1; exact ⟨i, rfl, Option.some.inj h1⟩
theorem ps_to {α : Type} {ws w : List α} {is : List Nat} (hs : is.map (fun i => ws[i]?) = w.map some) {k i : Nat} (hi : is[k]? = some i) : ∃ q, w[k]? = some q ∧ ws[i]? = some q := by
  have h1 : (is.map (fun i => ws[i]?))[k]? = some (ws[i]?) := by rw [List.getElem?_map, hi]; rfl
  rw [hs, List.getElem?_map] at h1
  cases hw : w[k]? with
  | none => rw [hw] at h1; cases h1
  | some q => rw [hw] at h1; exact ⟨q, rfl, (Option.some.inj h1).symm⟩
theorem P_iff {D : va_G} {cl : List vw_C} {ws : va_W} {H : Heap} : va_P D cl ws H ↔ ∀ q ∈ ws, va_at D cl q H :=
  ⟨fun h q hq => by
    obtain ⟨k, hk⟩ := List.getElem?_of_mem hq
    exact h k q hk, fun h k q hq => h q (List.mem_of_getElem? hq)⟩
abbrev apart (p q : Nat × va_E) : Prop := p.1 ≠ q.1
theorem D_iff {A : Nat → Prop} {ws : va_W} : va_D A ws ↔ ws.Pairwise apart ∧ ∀ q ∈ ws, A q.1 := by
  constructor
  · intro h
    refine ⟨List.pairwise_iff_getElem.mpr (fun i j hi hj hij e => ?_), fun q hq => ?_⟩
    · have := h.1 i j _ _ (List.getElem?_eq_getElem hi) (List.getElem?_eq_getElem hj) e
      omega
    · obtain ⟨k, hk⟩ := List.getElem?_of_mem hq
      exact h.2 k q hk
  · intro h
    refine ⟨fun i j p q hi hj e => ?_, fun k q hq => h.2 q (List.mem_of_getElem? hq)⟩
    obtain ⟨a1, b1⟩ := List.getElem?_eq_some_iff.mp hi
    obtain ⟨a2, b2⟩ := List.getElem?_eq_some_iff.mp hj
    have hp := List.pairwise_iff_getElem.mp h.1
    rcases Nat.lt_trichotomy i j with g | g | g
    · exact absurd (by rw [b1, b2]; exact e) (hp i j a1 a2 g)
    · exact g
    · exact absurd (by rw [b1, b2]; exact e.symm) (hp j i a2 a1 g)
theorem fs_sep {A : Nat → Prop} {Ws : List va_W} (hD : va_D A (List.flatten Ws)) {i j : Nat} {a b : va_W} (hi : Ws[i]? = some a) (hj : Ws[j]? = some b) (hij : i ≠ j) {p q : Nat × va_E} (hp : p ∈ a) (hq : q ∈ b) : p.1 ≠ q.1 := by
  have h := (List.pairwise_flatten.mp (D_iff.mp hD).1).2
  obtain ⟨a1, b1⟩ := List.getElem?_eq_some_iff.mp hi
  obtain ⟨a2, b2⟩ := List.getElem?_eq_some_iff.mp hj
  have hw := List.pairwise_iff_getElem.mp h
  rcases Nat.lt_or_gt_of_ne hij with g | g
  · exact hw i j a1 a2 g p (by rw [b1]; exact hp) q (by rw [b2]; exact hq)
  · exact fun e => hw j i a2 a1 g q (by rw [b2]; exact hq) p (by rw [b1]; exact hp) e.symm
theorem fs_P {D : va_G} {cl : List vw_C} {Ws w : List va_W} {H : Heap} (hP : va_P D cl (List.flatten Ws) H) {is : List Nat} (hs : is.map (fun i => Ws[i]?) = w.map some) : va_P D cl (List.flatten w) H := by
  rw [P_iff] at hP ⊢
  intro q hq
  obtain ⟨sg, h1, h2⟩ := List.mem_flatten.mp hq
  obtain ⟨k, hk⟩ := List.getElem?_of_mem h1
  obtain ⟨i, -, h⟩ := ps_at hs hk
  exact hP q (List.mem_flatten.mpr ⟨sg, List.mem_of_getElem? h, h2⟩)
theorem fs_D {A : Nat → Prop} {Ws w : List va_W} (hD : va_D A (List.flatten Ws)) {is : List Nat} (hn : va_nd is = true) (hs : is.map (fun i => Ws[i]?) = w.map some) : va_D (fun _ => True) (List.flatten w) := by
  refine D_iff.mpr ⟨List.pairwise_flatten.mpr ⟨fun sg h1 => ?_, List.pairwise_iff_getElem.mpr (fun i j hi hj hij p hp q hq => ?_)⟩, fun _ _ => trivial⟩
  · obtain ⟨k, hk⟩ := List.getElem?_of_mem h1
    obtain ⟨i, -, h⟩ := ps_at hs hk
    exact (List.pairwise_flatten.mp (D_iff.mp hD).1).1 sg (List.mem_of_getElem? h)
  · obtain ⟨a, ha, h1⟩ := ps_at hs (List.getElem?_eq_getElem hi)
    obtain ⟨b, hb, h2⟩ := ps_at hs (List.getElem?_eq_getElem hj)
    exact fs_sep hD h1 h2 (fun e => by
      subst e
      have := va_nd_inj is hn i j a ha hb
      omega) hp hq
theorem fs_put {A : Nat → Prop} {D : va_G} {cl : List vw_C} {Ws wc w1 : List va_W} {H H1 : Heap} (hP : va_P D cl (List.flatten Ws) H) (hD : va_D A (List.flatten Ws)) {is : List Nat} (hn : va_nd is = true) (hs : is.map (fun i => Ws[i]?) = wc.map some) (had : w1.map (fun sg => sg.map (fun q => q.1)) = wc.map (fun sg => sg.map (fun q => q.1)))
    (hk : ∀ q : Nat, q < H.size → ¬ va_A (List.flatten wc) H.size q → H1[q]? = H[q]?) (hP1 : va_P D cl (List.flatten w1) H1) : va_P D cl (List.flatten (putS Ws is w1)) H1 ∧ va_D A (List.flatten (putS Ws is w1)) := by
  have hl : is.length = w1.length := by
    have e1 := congrArg List.length hs
    have e2 := congrArg List.length had
    simp only [List.length_map] at e1 e2
    omega
  have hb : ∀ i ∈ is, i < Ws.length := fun i hi => by
    obtain ⟨k, hk⟩ := List.getElem?_of_mem hi
    obtain ⟨q, -, h⟩ := ps_to hs hk
    exact (List.getElem?_eq_some_iff.mp h).1
  have key : ∀ (k : Nat) (sg : va_W), (putS Ws is w1)[k]? = some sg → (∃ j, is[j]? = some k ∧ w1[j]? = some sg) ∨ (k ∉ is ∧ Ws[k]? = some sg) := fun k q h => by
    by_cases hki : k ∈ is
    · obtain ⟨j, hj⟩ := List.getElem?_of_mem hki
      rw [putS_in is w1 Ws j k hn hl hb hj] at h
      exact Or.inl ⟨j, hj, h⟩
    · rw [putS_out is w1 Ws k hki] at h
      exact Or.inr ⟨hki, h⟩
  have hmap : (putS Ws is w1).map (fun sg => sg.map (fun q => q.1)) = Ws.map (fun sg => sg.map (fun q => q.1)) := by
    apply List.ext_getElem?
    intro k
    rw [List.getElem?_map, List.getElem?_map]
    by_cases hki : k ∈ is
    · obtain ⟨j, hj⟩ := List.getElem?_of_mem hki
      rw [putS_in is w1 Ws j k hn hl hb hj]
      obtain ⟨q, h1, h2⟩ := ps_to hs hj
      rw [h2, ← h1, ← List.getElem?_map, ← List.getElem?_map, had]
    · rw [putS_out is w1 Ws k hki]
  have hadd : (List.flatten (putS Ws is w1)).map (fun q => q.1) = (List.flatten Ws).map (fun q => q.1) := by
    rw [List.map_flatten, List.map_flatten, hmap]
  constructor
  · rw [P_iff]
    intro q hq
    obtain ⟨sg, h1, h2⟩ := List.mem_flatten.mp hq
    obtain ⟨k, hk1⟩ := List.getElem?_of_mem h1
    rcases key k sg hk1 with ⟨j, -, hj⟩ | ⟨hki, hj⟩
    · exact P_iff.mp hP1 q (List.mem_flatten.mpr ⟨sg, List.mem_of_getElem? hj, h2⟩)
    · have hq0 := P_iff.mp hP q (List.mem_flatten.mpr ⟨sg, List.mem_of_getElem? hj, h2⟩)
      refine hq0.kept (hk q.1 hq0.lt (fun h => ?_))
      rcases h with ⟨k2, e, h⟩ | h
      · obtain ⟨sg2, g1, g2⟩ := List.mem_flatten.mp (List.mem_of_getElem? h)
        obtain ⟨j2, hj2⟩ := List.getElem?_of_mem g1
        obtain ⟨i, hi, h4⟩ := ps_at hs hj2
        exact fs_sep hD hj h4 (fun e => hki (by rw [e]; exact List.mem_of_getElem? hi)) h2 g2 rfl
      · exact absurd hq0.lt (by omega)
  · have h0 := D_iff.mp hD
    refine D_iff.mpr ⟨?_, fun q hq => ?_⟩
    · have h1 : ((List.flatten (putS Ws is w1)).map (fun q => q.1)).Pairwise (· ≠ ·) := by
        rw [hadd]
        exact List.pairwise_map.mpr h0.1
      exact (List.pairwise_map (R := (· ≠ ·)) (f := fun q : Nat × va_E => q.1)).mp h1
    · have h1 : q.1 ∈ (List.flatten Ws).map (fun q => q.1) := by
        rw [← hadd]
        exact List.mem_map.mpr ⟨q, hq, rfl⟩
      obtain ⟨q', h2, h3⟩ := List.mem_map.mp h1
      rw [← h3]
      exact h0.2 q' h2
section FRAME
variable {p : Program} {l : Launch} {e : Env} {R : Room} {s : State} {m : MethodId} {args : Array Value} {below : List Frame} {meth : Method} {c : Code} {H : Heap} {locs : List Loc} {cells slots : Nat} {Q : State → Prop}
variable {G : GP} {cc cc' : ByteArray} {own C : String} {nL maxL n index d pc : Nat} {ret ret' : Option FieldType} {A : Nat → Prop} {ls : Array Slot} {rest : List Value} {w w' w1 Ws : List va_W} {rv : Option Value} {y : MethodName} {av : List Value} {H0 : Heap}
theorem fs_free {is : List Nat} (hs : is.map (fun i => Ws[i]?) = w.map some) (hD : va_D A (List.flatten Ws)) (hS : va_S A s.heap H locs) (hA : ∀ q : Nat, s.heap.size ≤ q → A q) : ∀ q, va_A (List.flatten w) H.size q → A q := by
  intro q h
  rcases h with ⟨k, e, h⟩ | h
  · obtain ⟨sg, g1, g2⟩ := List.mem_flatten.mp (List.mem_of_getElem? h)
    obtain ⟨j, hj⟩ := List.getElem?_of_mem g1
    obtain ⟨i, -, h4⟩ := ps_at hs hj
    exact (D_iff.mp hD).2 (q, e) (List.mem_flatten.mpr ⟨sg, List.mem_of_getElem? h4, g2⟩)
  · exact hA q (Nat.le_trans hS.1 h)
theorem fs_pre {is : List Nat} (K : Cx p s m meth c G cc own nL ret args A) (hP : va_P G.1 vwCl (List.flatten Ws) H) (hD : va_D A (List.flatten Ws)) (hS : va_S A s.heap H locs) (hn : va_nd is = true) (hs : is.map (fun i => Ws[i]?) = w.map some) : PreS s H (Cp G av (List.flatten w) H.size) av :=
  ⟨Cp.blind, fun U hU hW => ⟨rfl, by rw [hU], by rw [hU]; exact fs_P hP hs, K.2.2.2.2.2.2.2.2.go hS hU hW (fs_free hs hD hS K.2.2.2.2.2.2.2.1), fs_D hD hn hs⟩⟩
theorem fs_go {is : List Nat} {a : Array Value} {st0 : List Value} (K : Cx p s m meth c G cc own nL ret args A) (hP : va_P G.1 vwCl (List.flatten Ws) H) (hD : va_D A (List.flatten Ws)) (hS : va_S A s.heap H locs) (hn : va_nd is = true) (hs : is.map (fun i => Ws[i]?) = w.map some) (had : w1.map (fun sg => sg.map (fun q => q.1)) = w.map (fun sg => sg.map (fun q => q.1)))
    (hr : va_Run p l e R s m args below meth c H locs cells slots 0 0 (F0 m pc ls st0) rest (QC G (List.flatten w1) rv (va_A (List.flatten w) H.size) a) (va_A (List.flatten w) H.size))
    (kk : ∀ (H1 : Heap) (locs1 : List Loc), va_P G.1 vwCl (List.flatten (putS Ws is w1)) H1 → va_D A (List.flatten (putS Ws is w1)) → va_S A s.heap H1 locs1 → W p l e R s m args below meth c H1 locs1 cells slots Q (F0 m (pc + 3) ls (rv.toList ++ rest))) : W p l e R s m args below meth c H locs cells slots Q (F0 m pc ls st0) := by
  have hF := fs_free hs hD hS K.2.2.2.2.2.2.2.1
  refine va_callg hr hS (fun q _ h => hF q h) hF (fun H1 locs1 hP1 _ hk hS1 => ?_)
  obtain ⟨a1, a2⟩ := fs_put hP hD hn hs had hk hP1
  exact kk H1 locs1 a1 a2 hS1
theorem sl_S (K : Cx p s m meth c G cc own nL ret args A) (hM : CC l G y cc' maxL ret' d av (List.flatten w) (List.flatten w1) rv) (hcode : Cond.code y cc' maxL ret' ∈ TB) (hini : Cond.initialized y.cls ∈ TB) (hst : Cond.static y ∈ TB) (hlink : Cond.methodLink own index y ∈ TB) (hd : CallD y n) (hR : CallR R d maxL)
    (hP : va_P G.1 vwCl (List.flatten Ws) H) (hD : va_D A (List.flatten Ws)) (hS : va_S A s.heap H locs) (is : List Nat) (hn : va_nd is = true) (hs : is.map (fun i => Ws[i]?) = w.map some) (had : w1.map (fun sg => sg.map (fun q => q.1)) = w.map (fun sg => sg.map (fun q => q.1)))
    (hlen : av.length = n) (hsize : ls.size = nL) (hW : (rest.map fun v => v.category).sum ≤ 8) (hf : cells ≤ R.cells ∧ slots ≤ R.slots) (hdg : decode cc pc = .ok (.invokestatic index, 3))
    (kk : ∀ (H1 : Heap) (locs1 : List Loc), va_P G.1 vwCl (List.flatten (putS Ws is w1)) H1 → va_D A (List.flatten (putS Ws is w1)) → va_S A s.heap H1 locs1 → W p l e R s m args below meth c H1 locs1 cells slots Q (F0 m (pc + 3) ls (rv.toList ++ rest))) : W p l e R s m args below meth c H locs cells slots Q (F0 m pc ls (av.reverse ++ rest)) := by
  have K0 := K
  obtain ⟨hx, hb, hr, hml, hts, hown, hlocks, hA, hG⟩ := K
  exact fs_go K0 hP hD hS hn hs had (va_runS ⟨hx, hb, hml, hown, hts⟩ (hM H.size) ⟨callB_of n hts (tb_goodIn hcode) rfl rfl rfl (hts _ hini) (hts _ hlink) hd hR, hts _ hst⟩ (fs_pre K0 hP hD hS hn hs) rfl hlen hsize rfl (lv_room hW) hdg hf) kk
theorem sl_SN {host : String} (K : Cx p s m meth c G cc own nL ret args A) (hM : CC l G y cc' maxL ret' d av (List.flatten w) (List.flatten w1) rv) (hcode : Cond.code y cc' maxL ret' ∈ TB) (hini : Cond.initialized y.cls ∈ TB) (hst : Cond.static y ∈ TB) (hlink : Cond.methodLinkNest own index y host ∈ TN) (hd : CallD y n) (hR : CallR R d maxL)
    (hP : va_P G.1 vwCl (List.flatten Ws) H) (hD : va_D A (List.flatten Ws)) (hS : va_S A s.heap H locs) (is : List Nat) (hn : va_nd is = true) (hs : is.map (fun i => Ws[i]?) = w.map some) (had : w1.map (fun sg => sg.map (fun q => q.1)) = w.map (fun sg => sg.map (fun q => q.1)))
    (hlen : av.length = n) (hsize : ls.size = nL) (hW : (rest.map fun v => v.category).sum ≤ 8) (hf : cells ≤ R.cells ∧ slots ≤ R.slots) (hdg : decode cc pc = .ok (.invokestatic index, 3))
    (kk : ∀ (H1 : Heap) (locs1 : List Loc), va_P G.1 vwCl (List.flatten (putS Ws is w1)) H1 → va_D A (List.flatten (putS Ws is w1)) → va_S A s.heap H1 locs1 → W p l e R s m args below meth c H1 locs1 cells slots Q (F0 m (pc + 3) ls (rv.toList ++ rest))) : W p l e R s m args below meth c H locs cells slots Q (F0 m pc ls (av.reverse ++ rest)) := by
  have K0 := K
  obtain ⟨hx, hb, hr, hml, hts, hown, hlocks, hA, hG⟩ := K
  exact fs_go K0 hP hD hS hn hs had (va_runSN ⟨hx, hb, hml, hown, hts⟩ (hM H.size) ⟨va_cnB n hts (tb_goodIn hcode) rfl rfl rfl (hG.2.1 _ hlink) (hts _ hini) hd hR, hts _ hst, trivial⟩ (fs_pre K0 hP hD hS hn hs) rfl hlen hsize rfl (lv_room hW) hdg hf) kk
/-- a virtual call on a receiver that is known otherwise -/
theorem sl_R {b : Nat} {As : List Value} (K : Cx p s m meth c G cc own nL ret args A) (hM : CC l G y cc' maxL ret' d (.ref b :: As) (List.flatten w) (List.flatten w1) rv) (hcode : Cond.code y cc' maxL ret' ∈ TB) (hini : Cond.initialized y.cls ∈ TB) (hin : Cond.instanceMethod y ∈ TB) (hsel : Cond.selects C y y ∈ TB) (hlink : Cond.methodLink own index y ∈ TB) (hd : CallD y n) (hR : CallR R d maxL)
    (hP : va_P G.1 vwCl (List.flatten Ws) H) (hD : va_D A (List.flatten Ws)) (hS : va_S A s.heap H locs) (is : List Nat) (hn : va_nd is = true) (hs : is.map (fun i => Ws[i]?) = w.map some) (had : w1.map (fun sg => sg.map (fun q => q.1)) = w.map (fun sg => sg.map (fun q => q.1)))
    (hrec : ∃ cellB : Cell, H[b]? = some cellB ∧ cellB.vm.isStatics = false ∧ s.vm.findClass C = some cellB.cls)
    (hlen : As.length = n) (hsize : ls.size = nL) (hW : (rest.map fun v => v.category).sum ≤ 8) (hf : cells ≤ R.cells ∧ slots ≤ R.slots) (hdg : decode cc pc = .ok (.invokevirtual index, 3))
    (kk : ∀ (H1 : Heap) (locs1 : List Loc), va_P G.1 vwCl (List.flatten (putS Ws is w1)) H1 → va_D A (List.flatten (putS Ws is w1)) → va_S A s.heap H1 locs1 → W p l e R s m args below meth c H1 locs1 cells slots Q (F0 m (pc + 3) ls (rv.toList ++ rest))) : W p l e R s m args below meth c H locs cells slots Q (F0 m pc ls (As.reverse ++ .ref b :: rest)) := by
  have K0 := K
  obtain ⟨hx, hb, hr, hml, hts, hown, hlocks, hA, hG⟩ := K
  have hpre := fs_pre (av := .ref b :: As) K0 hP hD hS hn hs
  exact fs_go K0 hP hD hS hn hs had (va_runV ⟨hx, hb, hml, hown, hts⟩ (hM H.size) ⟨callB_of n hts (tb_goodIn hcode) rfl rfl rfl (hts _ hini) (hts _ hlink) hd hR, hts _ hin, hts _ hsel⟩ ⟨hpre.1, hrec, hpre.2⟩ rfl hlen hsize rfl (lv_room hW) hdg hf) kk
theorem sl_V {b q0 ci : Nat} {q : vw_C} {fs As : List Value} (K : Cx p s m meth c G cc own nL ret args A) (hM : CC l G y cc' maxL ret' d (.ref b :: As) (List.flatten w) (List.flatten w1) rv) (hcode : Cond.code y cc' maxL ret' ∈ TB) (hini : Cond.initialized y.cls ∈ TB) (hin : Cond.instanceMethod y ∈ TB) (hsel : Cond.selects C y y ∈ TB) (hlink : Cond.methodLink own index y ∈ TB) (hd : CallD y n) (hR : CallR R d maxL)
    (hP : va_P G.1 vwCl (List.flatten Ws) H) (hD : va_D A (List.flatten Ws)) (hS : va_S A s.heap H locs) (is : List Nat) (hn : va_nd is = true) (hs : is.map (fun i => Ws[i]?) = w.map some) (had : w1.map (fun sg => sg.map (fun q => q.1)) = w.map (fun sg => sg.map (fun q => q.1)))
    (hq : vwCl[ci]? = some q) (hC : q.1 = C) (he : (List.flatten Ws)[q0]? = some (b, .inr (ci, fs)))
    (hlen : As.length = n) (hsize : ls.size = nL) (hW : (rest.map fun v => v.category).sum ≤ 8) (hf : cells ≤ R.cells ∧ slots ≤ R.slots) (hdg : decode cc pc = .ok (.invokevirtual index, 3))
    (kk : ∀ (H1 : Heap) (locs1 : List Loc), va_P G.1 vwCl (List.flatten (putS Ws is w1)) H1 → va_D A (List.flatten (putS Ws is w1)) → va_S A s.heap H1 locs1 → W p l e R s m args below meth c H1 locs1 cells slots Q (F0 m (pc + 3) ls (rv.toList ++ rest))) : W p l e R s m args below meth c H locs cells slots Q (F0 m pc ls (As.reverse ++ .ref b :: rest)) := by
  subst hC
  exact sl_R K hM hcode hini hin hsel hlink hd hR hP hD hS is hn hs had (va_recv K.2.2.2.2.2.2.2.2.1 hP hq he) hlen hsize hW hf hdg kk
end FRAME
