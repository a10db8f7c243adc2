/-! write -/
theorem w255 : ∀ j : Fin 32, (255#32).getLsbD j.1 = decide (j.1 < 8) ∧ (255#64).getLsbD j.1 = decide (j.1 < 8) := by decide +kernel
theorem wbv (v : BitVec 64) (k : Nat) (hk : k ≤ 56) : (v >>> k).signExtend 32 &&& 255#32 = (v.sshiftRight k &&& 255#64).signExtend 32 := by
  apply BitVec.eq_of_getLsbD_eq
  intro j hj
  rw [BitVec.getLsbD_and, BitVec.getLsbD_signExtend, BitVec.getLsbD_signExtend, if_pos (by omega), if_pos (by omega), BitVec.getLsbD_and, BitVec.getLsbD_ushiftRight, BitVec.getLsbD_sshiftRight, (w255 ⟨j, hj⟩).1, (w255 ⟨j, hj⟩).2]
  by_cases h : j < 8
  · rw [if_pos (by omega), decide_eq_true h, decide_eq_true hj, decide_eq_false (show ¬ 64 ≤ j by omega)]
    simp
  · rw [decide_eq_false h]
    simp
theorem wsh : ∀ i : Fin 8, ((8 * nI i.1).toInt64.toUInt64 &&& Int64.toUInt64 63).toBitVec % 64#64 = BitVec.ofNat 64 (8 * i.1) ∧ (((8 * nI i.1).toInt64 &&& 63).toBitVec.smod 64#64) = BitVec.ofNat 64 (8 * i.1) := by decide +kernel
theorem wby (v : Int64) {i : Nat} (hi : i < 8) : (v.toUInt64 >>> ((8 * nI i).toInt64.toUInt64 &&& Int64.toUInt64 63)).toInt64.toInt32 &&& 255 = ((v >>> ((8 * nI i).toInt64 &&& 63)) &&& 255).toInt32 := by
  apply Int32.toBitVec_inj.1
  have h1 := (wsh ⟨i, hi⟩).1
  have h2 := (wsh ⟨i, hi⟩).2
  have e1 : (v.toUInt64 >>> ((8 * nI i).toInt64.toUInt64 &&& Int64.toUInt64 63)).toInt64.toBitVec = v.toBitVec >>> (8 * i) := by
    show v.toBitVec >>> (((8 * nI i).toInt64.toUInt64 &&& Int64.toUInt64 63).toBitVec % 64#64) = _
    rw [h1]
    show v.toBitVec >>> (BitVec.ofNat 64 (8 * i)).toNat = _
    rw [BitVec.toNat_ofNat, Nat.mod_eq_of_lt (by omega)]
  have e2 : (v >>> ((8 * nI i).toInt64 &&& 63)).toBitVec = v.toBitVec.sshiftRight (8 * i) := by
    show v.toBitVec.sshiftRight (((8 * nI i).toInt64 &&& 63).toBitVec.smod 64#64).toNat = _
    rw [h2, BitVec.toNat_ofNat, Nat.mod_eq_of_lt (by omega)]
  show (v.toUInt64 >>> ((8 * nI i).toInt64.toUInt64 &&& Int64.toUInt64 63)).toInt64.toBitVec.signExtend 32 &&& 255#32 = ((v >>> ((8 * nI i).toInt64 &&& 63)).toBitVec &&& 255#64).signExtend 32
  rw [e1, e2]
  exact wbv _ _ (by omega)
theorem wnar : ∀ b : Fin 256, (vp_nar .byte (nI b.1).toInt8.toInt32) &&& 255 = nI b.1 := by decide +kernel
def PTn (len : Nat) (tx : Nat → Nat) (σ : ST) (n : Int32) (f : Nat → Int32) : Prop := σ.1 1 = nI len ∧ n = nI len ∧ ∀ i, i < len → tx i < 256 ∧ (σ.2.1 0 i) &&& 255 = nI (tx i) ∧ f i = nI (tx i)
theorem nI_m1 (r : Nat) : nI r + (-1) = nI r - 1 := (Int32.sub_eq_add_neg _ _).symm
theorem wr_loop {x1 : Int32} {v : Int64} : ∀ (r n len : Nat) (tx : Nat → Nat) (σ σx : ST) (f : Nat → Int32), r ≤ 8 → len + r ≤ 92 → r < n → PTn len tx σ (nI len) f → ∃ (σ' : ST) (f' : Nat → Int32) (tx' : Nat → Nat) (a b : Int32), gX10_write_36 FU x1 v n (nI r - 1) σ = some (a, σ') ∧ gX11_write_34 FU x1 v n (nI r - 1) (sI (sW σx 15 f) 16 (nI len)) = some (b, sI (sW σx 15 f') 16 (nI (len + r))) ∧ PTn (len + r) tx' σ' (nI (len + r)) f' := by
  intro r
  induction r with
  | zero =>
    intro n len tx σ σx f h8 hl hn h
    obtain ⟨m, rfl⟩ : ∃ m, n = m + 1 := ⟨n - 1, by omega⟩
    refine ⟨σ, f, tx, nI 0 - 1, nI 0 - 1, ?_, ?_, h⟩
    · show gbX10_write_36 FU x1 v _ (nI 0 - 1) σ = _
      unfold gbX10_write_36
      rw [if_pos (by decide)]
    · show gbX11_write_34 FU x1 v _ (nI 0 - 1) _ = _
      unfold gbX11_write_34
      rw [if_pos (by decide)]
      rfl
  | succ r ih =>
    intro n len tx σ σx f h8 hl hn h
    obtain ⟨m, rfl⟩ : ∃ m, n = m + 1 := ⟨n - 1, by omega⟩
    obtain ⟨b, hb, e⟩ := pk_andE ((v.toUInt64 >>> ((8 * nI r).toInt64.toUInt64 &&& Int64.toUInt64 63)).toInt64.toInt32) (m := 255) 8 (by decide)
    have e' := wby v (show r < 8 by omega)
    rw [e] at e'
    have hP : PTn (len + 1) (fun i => if i = len then b else tx i) (sI (sA σ 0 len (vp_nar .byte (nI b).toInt8.toInt32)) 1 (nI len + 1)) (nI (len + 1)) (upd f len (nI b)) := by
      refine ⟨nI_1 len, rfl, fun i hi => ?_⟩
      show _ ∧ (upd (σ.2.1 0) len (vp_nar .byte (nI b).toInt8.toInt32) i) &&& 255 = _ ∧ _
      unfold upd
      by_cases hc : i = len
      · simp only [if_pos hc]
        exact ⟨hb, wnar ⟨b, hb⟩, trivial⟩
      · simp only [if_neg hc]
        exact h.2.2 i (by omega)
    obtain ⟨σ', f', tx', a1, b1, g1, g2, g3⟩ := ih m (len + 1) _ _ σx _ (by omega) (by omega) (by omega) hP
    rw [show len + 1 + r = len + (r + 1) by omega] at g2 g3
    refine ⟨σ', f', tx', a1, b1, ?_, ?_, g3⟩
    · show gbX10_write_36 FU x1 v (gX10_write_36 FU x1 v m) (nI (r + 1) - 1) σ = _
      unfold gbX10_write_36 fX9_add
      rw [nI_pred, if_neg (nI_pos (by omega)), h.1, show (92 : Int32) = nI 92 from rfl, if_neg (nI_ge (by omega) (by omega)), if_neg (nI_in (show len < 92 by omega) (by omega)), nI_clamp (by omega), e, nm_go, st_A1, h.1, nm_go, bd_some, nI_m1]
      exact g1
    · show gbX11_write_34 FU x1 v (gX11_write_34 FU x1 v m) (nI (r + 1) - 1) _ = _
      have f16 : (sI (sW σx 15 f) 16 (nI len)).1 16 = nI len := rfl
      have fA : sA (sI (sW σx 15 f) 16 (nI len)) 15 len (nI b) = sI (sW σx 15 (upd f len (nI b))) 16 (nI len) := by
        have := sA_sW σx 15 f len (nI b)
        show ((sI (sW σx 15 f) 16 (nI len)).1, _) = _
        rw [show sI (sW σx 15 (upd f len (nI b))) 16 (nI len) = ((sI (sW σx 15 f) 16 (nI len)).1, (sW σx 15 (upd f len (nI b))).2) from rfl, ← this]
        rfl
      unfold gbX11_write_34
      rw [nI_pred, if_neg (nI_pos (by omega)), f16, if_neg (nI_in (show len < 92 by omega) (by omega)), nI_clamp (by omega), ← e', nm_go, fA, nm_go, nI_m1]
      have fI : sI (sI (sW σx 15 (upd f len (nI b))) 16 (nI len)) 16 ((sI (sW σx 15 (upd f len (nI b))) 16 (nI len)).1 16 + 1) = sI (sW σx 15 (upd f len (nI b))) 16 (nI (len + 1)) := by
        rw [show (sI (sW σx 15 (upd f len (nI b))) 16 (nI len)).1 16 = nI len from rfl, nI_1]
        unfold sI
        refine Prod.ext (funext fun k => ?_) rfl
        show (if k = 16 then _ else if k = 16 then _ else _) = (if k = 16 then _ else _)
        by_cases hk : k = 16
        · rw [if_pos hk, if_pos hk]
        · rw [if_neg hk, if_neg hk, if_neg hk]
      rw [fI]
      exact g2
theorem st_write : St_write Inv := by
  intro S x1 x2 hI
  obtain ⟨⟨len, tx, h1, h2, h3, h4⟩, hB, hG, hS, hK0, hK1⟩ := id hI
  have hsame : Inv (uS (uS S 1 (S 1)) 20 (S 20)) := hI
  unfold fX10_write fX11_write
  rw [show (1 : Int64) = (nI 1).toInt64 from rfl, show (8 : Int64) = (nI 8).toInt64 from rfl]
  rcases rng x1 9 (by omega) with ⟨k, hk, rfl⟩ | hx
  · rw [in_n (by omega) (by omega) (by omega), bd_some]
    by_cases h0 : k = 0
    · subst h0
      rw [if_pos (show nI 0 < (1 : Int32) by decide), if_neg (show ¬ (1 ≤ 0 ∧ 0 ≤ 8) by omega), if0]
      exact ⟨_, _, rfl, rfl, rfl, hsame⟩
    · rw [if_neg (show ¬ nI k < (1 : Int32) from nI_nlt (a := k) (b := 1) (by omega) (by omega)), if_pos (show nI k ≤ (8 : Int32) from nI_le (a := k) (b := 8) (by omega) (by omega)), if_pos (show 1 ≤ k ∧ k ≤ 8 by omega), if1, h2, h3, nI_add, show (92 : Int32) = nI 92 from rfl]
      by_cases hl : len + k ≤ 92
      · rw [if_pos (nI_le hl (by omega)), if_pos (nI_le hl (by omega))]
        obtain ⟨σ', f', tx', a, b, g1, g2, g3⟩ := wr_loop (x1 := nI k) (v := x2) k FU len tx (S 1) (S 20) ((S 20).2.1 15) (by omega) hl (by unfold FU; omega) ⟨h2, rfl, h4⟩
        have e : sI (sW (S 20) 15 ((S 20).2.1 15)) 16 (nI len) = S 20 := by
          rw [sW_same]
          unfold sI
          refine Prod.ext (funext fun k => ?_) rfl
          show (if k = 16 then _ else _) = _
          by_cases hk : k = 16
          · rw [if_pos hk, hk, h3]
          · rw [if_neg hk]
        rw [e] at g2
        rw [g1, g2, bd_some, bd_some]
        refine ⟨_, _, rfl, rfl, ?_⟩
        refine ⟨g3.1, ⟨len + k, tx', hl, g3.1, rfl, g3.2.2⟩, hB, hG, hS, hK0, hK1⟩
      · rw [if_neg (nI_ge (by omega) (by omega)), if_neg (nI_ge (by omega) (by omega))]
        exact ⟨_, _, rfl, rfl, rfl, hsame⟩
  · have hx2 := not_rng (N := 9) (by omega) hx
    rw [in_gen2, nI_toInt (n := 1) (by omega), nI_toInt (n := 8) (by omega), if_neg (show ¬ (((1 : Nat) : Int) ≤ x1.toInt ∧ x1.toInt ≤ ((8 : Nat) : Int)) by omega), bd_some, if0]
    by_cases h0 : x1 < 1
    · rw [if_pos h0]
      exact ⟨_, _, rfl, rfl, rfl, hsame⟩
    · rw [if_neg h0, if_neg (fun h => by
        rw [fa_lt] at h0
        rw [fa_le] at h
        have e1 : (1 : Int32).toInt = 1 := rfl
        have e8 : (8 : Int32).toInt = 8 := rfl
        omega)]
      exact ⟨_, _, rfl, rfl, rfl, hsame⟩
