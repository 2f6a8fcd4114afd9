/-! The reference: feed. -/
theorem bv_low (B : BitVec 64) : (B.signExtend 32).toNat % 2 ^ 8 = B.toNat % 2 ^ 8 := by
  rw [BitVec.signExtend_eq_setWidth_of_le _ (by decide), BitVec.toNat_setWidth]
  omega
theorem bv_sh (B : BitVec 64) {s : Nat} (hs : s ≤ 56) : (B.sshiftRight s).toNat % 2 ^ 8 = (B >>> s).toNat % 2 ^ 8 := by
  apply Nat.eq_of_testBit_eq
  intro i
  rw [Nat.testBit_mod_two_pow, Nat.testBit_mod_two_pow, BitVec.testBit_toNat, BitVec.testBit_toNat, BitVec.getLsbD_sshiftRight, BitVec.getLsbD_ushiftRight]
  by_cases hi : i < 8
  · have h1 : ¬ 64 ≤ i := by omega
    have h2 : s + i < 64 := by omega
    simp [hi, h1, h2]
  · simp [hi]
theorem fd_eq (w : Int64) {m : Nat} (hm : m < 8) : ((w >>> ((nI (8 * m)).toInt64 &&& 63)).toInt32).toBitVec.toNat % 2 ^ 8 = fd_b w m := by
  have e1 : (w >>> ((nI (8 * m)).toInt64 &&& 63)).toBitVec = w.toBitVec.sshiftRight (8 * m) := by
    have : m = 0 ∨ m = 1 ∨ m = 2 ∨ m = 3 ∨ m = 4 ∨ m = 5 ∨ m = 6 ∨ m = 7 := by omega
    rcases this with rfl | rfl | rfl | rfl | rfl | rfl | rfl | rfl <;> rfl
  have e2 : (w.toUInt64 >>> ((nI (8 * m)).toInt64.toUInt64 &&& Int64.toUInt64 63)).toInt64.toBitVec = w.toBitVec >>> (8 * m) := by
    have : m = 0 ∨ m = 1 ∨ m = 2 ∨ m = 3 ∨ m = 4 ∨ m = 5 ∨ m = 6 ∨ m = 7 := by omega
    rcases this with rfl | rfl | rfl | rfl | rfl | rfl | rfl | rfl <;> rfl
  unfold fd_b
  show ((w >>> ((nI (8 * m)).toInt64 &&& 63)).toBitVec.signExtend 32).toNat % 2 ^ 8 = ((w.toUInt64 >>> ((nI (8 * m)).toInt64.toUInt64 &&& Int64.toUInt64 63)).toInt64.toBitVec.signExtend 32).toNat % 2 ^ 8
  rw [e1, e2, bv_low, bv_low]
  exact bv_sh _ (by omega)
theorem fd_lt (w : Int64) (m : Nat) : fd_b w m < 256 := Nat.mod_lt _ (by decide)
section
variable {l : Launch} {sc : Nat × (Nat → Int32)} {M0 M : mm_M} {Q : mm_O → mm_M → Prop} {sl : Nat → List Nat} {tp : List Nat} {pl : Int32} {o th : Nat}
theorem lp_Mo_feed {w : Int64} {x3 : Option Value} {y4 : Int32} : ∀ m (M : mm_M) (x : Nat → Int32) (A : Nat → Nat → Int32) (tp : List Nat), m ≤ 8 → mo_is M0 M x A → tp_is x A tp → tp.length + m ≤ 400 →
    (∀ M' x' A', mo_is M0 M' x' A' → fx [2] x x' → fa [0] A A' → tp_is x' A' (tp ++ fd_bs w m) → Q (.inl (some (.int (nI (tp.length + m))))) M') →
    mm_Go l sc Y_Mo_feed 0 0 M [some (.ref 54), some (.long w), none, x3, some (.int y4), some (.int (nI m + -1))] [] 55 Q := by
  intro m
  induction m with
  | zero =>
    intro M x A tp hm h hT hlen hQ
    have e : nI 0 + -1 = (-1 : Int32) := by decide
    rw [e]
    refine mg_run 1 rfl ?_
    refine mg_zltM rfl ?_
    refine mg_run 1 rfl ?_
    refine mg_get rfl rfl h.2.1 rfl ?_
    rw [hT.1]
    refine mg_ir rfl rfl rfl rfl ?_
    exact hQ M x A h (fx.rf _ _) (fa.rf _ _) (by rw [fd_bs, List.append_nil]; exact hT)
  | succ m ih =>
    intro M x A tp hm h hT hlen hQ
    rw [pk_m1]
    refine mg_run 1 rfl ?_
    refine mg_zlt rfl (by omega) ?_
    refine mg_run 1 rfl ?_
    refine mg_get rfl rfl h.2.1 rfl ?_
    refine mg_run 1 rfl ?_
    refine mg_get rfl rfl h.2.1 rfl ?_
    rw [hT.1]
    refine mg_run 3 rfl ?_
    refine mg_mulN rfl ?_
    refine mg_run 3 rfl ?_
    refine mg_andN (k := 8) rfl rfl ?_
    rw [fd_eq w (by omega)]
    refine mr_ist 0 rfl h (by decide) (show tp.length < 400 by omega) (fun M1 q1 => ?_)
    refine mg_run 2 rfl ?_
    refine mg_get rfl rfl q1.2.1 rfl ?_
    rw [hT.1]
    refine mg_run 1 rfl ?_
    refine mg_addN rfl ?_
    refine mr_put rfl rfl q1 rfl rfl rfl (fun M2 q2 => ?_)
    refine mg_run 2 rfl ?_
    have el : (tp ++ [fd_b w m]).length = tp.length + 1 := by simp
    refine ih M2 _ _ (tp ++ [fd_b w m]) (by omega) q2 ⟨?_, by omega, fun i hi => ?_⟩ (by omega) (fun M' x' A' p1 p2 p3 p4 => ?_)
    · rw [pk_us, el]
    · rw [aup_s]
      by_cases ei : i = tp.length
      · subst ei
        rw [pk_us]
        simp
      · rw [pk_un ei, hT.2.2 i (by omega)]
        have : i < tp.length := by omega
        simp [List.getElem?_append_left this]
    · have e : tp ++ [fd_b w m] ++ fd_bs w m = tp ++ fd_bs w (m + 1) := by rw [List.append_assoc, fd_bs]; rfl
      rw [e] at p4
      have e5 : (tp ++ [fd_b w m]).length + m = tp.length + (m + 1) := by omega
      rw [e5]
      exact hQ M' x' A' p1 ((fx.up (by decide) _ _).tr p2) ((fa.up (by decide) _ _).tr p3) p4
theorem c_Mo_feed (h : md_is M0 M sl tp pl o th) {w : Int64} {N : Nat} (hN1 : 1 ≤ N) (hN2 : N ≤ 8) (hl9 : tp.length + N ≤ 400)
    (hQ : ∀ M', md_is M0 M' sl (tp ++ fd_bs w N) pl o 0 → Q (.inl (some (.int (nI (tp.length + N))))) M') : mm_Ct l sc Y_Mo_feed M [.ref 54, .long w, .int (nI N)] Q := by
  obtain ⟨x, A, h1, h2, h3, h4, h5, h6⟩ := h
  have eN : (nI N).toInt = N := nI_toInt (by omega)
  have e1 : (nI 1).toInt = 1 := by decide
  have e8 : (nI 8).toInt = 8 := by decide
  refine mm_by k_Mo_feed w_Mo_feed rfl rfl ?_
  refine mg_run 3 rfl ?_
  refine mg_callS [.int (nI N), .int (nI 1), .int (nI 8)] rfl rfl rfl rfl rfl rfl (c_Mo_in (fun _ _ => ?_) (fun e => absurd e (by omega)))
  refine mg_zne rfl (by decide) (fun _ => ?_) (fun h => absurd h (by decide))
  refine mg_run 5 rfl ?_
  refine mg_zne (a := 0) rfl (by decide) (fun h => absurd h (by decide)) (fun _ => ?_)
  refine mg_run 1 rfl ?_
  refine mg_get rfl rfl h1.2.1 rfl ?_
  rw [h3.1]
  refine mg_run 1 rfl ?_
  refine mg_addN rfl ?_
  refine mg_run 1 rfl ?_
  refine mg_le rfl (by omega) (by decide) (fun _ => ?_) (fun h => absurd h (by omega))
  refine mg_run 1 rfl ?_
  refine mg_callV [.int (nI 0), .int (nI 0)] rfl rfl rfl h1.2.1 rfl rfl rfl rfl (c_Mo_throwing h1 (a := 0) (b := 0) (by decide) (by decide) (fun _ _ M1 q1 => ?_) (fun h => absurd h (by decide)) (fun _ h => absurd h (by decide)))
  refine mg_zeq rfl (by decide) (fun _ => ?_) (fun h => absurd h (by decide))
  refine mg_run 2 rfl ?_
  refine mg_sub1 rfl ?_
  refine mg_run 1 rfl ?_
  have T1 : tp_is (upd x 0 (nI 0)) A tp := h3.fr (fx.up (ls := [0]) (by decide) _ _) (fa.rf [] A) (by decide) (by decide)
  refine lp_Mo_feed N M1 _ A tp hN2 q1 T1 hl9 (fun M' x' A' p1 p2 p3 p4 => hQ M' ⟨x', A', p1, h2.fr p3 (by decide) (by decide), p4, ?_, ?_, ?_⟩)
  · rw [p2 3 (by decide), pk_un (by decide)]
    exact h4
  · rw [p2 4 (by decide), pk_un (by decide)]
    exact h5
  · rw [p2 0 (by decide), pk_us]
theorem c_Mo_feedX (h : md_is M0 M sl tp pl o th) {w : Int64} {z : Int32} (hx : no_n z) (hQ : ∀ M', md_is M0 M' sl tp pl o 1 → Q (.inl (some (.int (nI 0)))) M') : mm_Ct l sc Y_Mo_feed M [.ref 54, .long w, .int z] Q := by
  obtain ⟨x, A, h1, h2, h3, h4, h5, h6⟩ := h
  have e1 : (nI 1).toInt = 1 := by decide
  have e8 : (nI 8).toInt = 8 := by decide
  refine mm_by k_Mo_feed w_Mo_feed rfl rfl ?_
  refine mg_run 3 rfl ?_
  refine mg_callS [.int z, .int (nI 1), .int (nI 8)] rfl rfl rfl rfl rfl rfl (c_Mo_in (fun _ _ => ?_) (fun _ => ?_))
  · exfalso
    unfold no_n at hx
    omega
  refine mg_zne rfl (by decide) (fun h => absurd h (by decide)) (fun _ => ?_)
  refine mg_run 6 rfl ?_
  refine mg_zne (a := 1) rfl (by decide) (fun _ => ?_) (fun h => absurd h (by decide))
  refine mg_run 1 rfl ?_
  refine mg_callV [.int (nI 1), .int (nI 0)] rfl rfl rfl h1.2.1 rfl rfl rfl rfl (c_Mo_throwing h1 (a := 1) (b := 0) (by decide) (by decide) (fun h => absurd h (by decide)) (fun _ M1 q1 => ?_) (fun h => absurd h (by decide)))
  refine mg_zeq rfl (by decide) (fun h => absurd h (by decide)) (fun _ => ?_)
  refine mg_run 1 rfl ?_
  exact mg_ir rfl rfl rfl rfl (hQ M1 (md_th h2 h3 h4 h5 q1))
theorem c_Mo_feedE (h : md_is M0 M sl tp pl o th) {w : Int64} {N : Nat} (hN1 : 1 ≤ N) (hN2 : N ≤ 8) (hl9 : 400 < tp.length + N)
    (hQ : ∀ M', md_is M0 M' sl tp pl o 2 → Q (.inl (some (.int (nI 0)))) M') : mm_Ct l sc Y_Mo_feed M [.ref 54, .long w, .int (nI N)] Q := by
  obtain ⟨x, A, h1, h2, h3, h4, h5, h6⟩ := h
  have h39 := h3.2.1
  have eN : (nI N).toInt = N := nI_toInt (by omega)
  have e1 : (nI 1).toInt = 1 := by decide
  have e8 : (nI 8).toInt = 8 := by decide
  refine mm_by k_Mo_feed w_Mo_feed rfl rfl ?_
  refine mg_run 3 rfl ?_
  refine mg_callS [.int (nI N), .int (nI 1), .int (nI 8)] rfl rfl rfl rfl rfl rfl (c_Mo_in (fun _ _ => ?_) (fun e => absurd e (by omega)))
  refine mg_zne rfl (by decide) (fun _ => ?_) (fun h => absurd h (by decide))
  refine mg_run 5 rfl ?_
  refine mg_zne (a := 0) rfl (by decide) (fun h => absurd h (by decide)) (fun _ => ?_)
  refine mg_run 1 rfl ?_
  refine mg_get rfl rfl h1.2.1 rfl ?_
  rw [h3.1]
  refine mg_run 1 rfl ?_
  refine mg_addN rfl ?_
  refine mg_run 1 rfl ?_
  refine mg_le rfl (by omega) (by decide) (fun h => absurd h (by omega)) (fun _ => ?_)
  refine mg_run 2 rfl ?_
  refine mg_callV [.int (nI 0), .int (nI 1)] rfl rfl rfl h1.2.1 rfl rfl rfl rfl (c_Mo_throwing h1 (a := 0) (b := 1) (by decide) (by decide) (fun _ h => absurd h (by decide)) (fun h => absurd h (by decide)) (fun _ _ M1 q1 => ?_))
  refine mg_zeq rfl (by decide) (fun h => absurd h (by decide)) (fun _ => ?_)
  refine mg_run 1 rfl ?_
  exact mg_ir rfl rfl rfl rfl (hQ M1 (md_th h2 h3 h4 h5 q1))
end
