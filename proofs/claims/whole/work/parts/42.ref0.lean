/-! The reference: its state, and its smallest methods. -/
def mo_f (x : Nat → Int32) : List Value := [.int (x 0), .ref 55, .int (x 2), .int (x 3), .int (x 4), .ref 56, .ref 57, .ref 58, .int (x 8), .ref 59, .int (x 10), .int (x 11), .ref 60, .ref 61, .ref 62, .ref 63, .ref 64, .int (x 17), .ref 65, .int (x 19), .int (x 20), .int (x 21), .int (x 22), .int (x 23)]
def mo_n : Nat → Nat
  | 0 => 400
  | 1 => 24000
  | 2 => 12
  | 3 => 2001
  | 4 => 2001
  | 5 => 2002
  | 6 => 2002
  | 7 => 422
  | 8 => 422
  | 9 => 422
  | _ => 400
theorem mo_n_lt (k : Nat) : mo_n k < 2 ^ 31 := by
  unfold mo_n
  split <;> decide
/-- the reference's fields x and arrays A; nothing else is written since M0 -/
def mo_is (M0 M : mm_M) (x : Nat → Int32) (A : Nat → Nat → Int32) : Prop := mm_on (mm_rg 54 65) M0 M ∧ M[54]? = some (.inr (8, mo_f x)) ∧ ∀ k, k < 11 → M[55 + k]? = some (.inl (0, mo_n k, .inl (A k)))
def aup (A : Nat → Nat → Int32) (k : Nat) (f : Nat → Int32) : Nat → Nat → Int32 := fun j => if j = k then f else A j
theorem aup_s {A : Nat → Nat → Int32} {k : Nat} {f : Nat → Int32} : aup A k f k = f := if_pos rfl
theorem aup_n {A : Nat → Nat → Int32} {k j : Nat} {f : Nat → Int32} (h : j ≠ k) : aup A k f j = A j := if_neg h
section
variable {l : Launch} {sc : Nat × (Nat → Int32)} {Y : mm_Y} {k n : Nat} {M0 M : mm_M} {L : mm_L} {S : List Value} {pc : Nat} {Q : mm_O → mm_M → Prop} {x : Nat → Int32} {A : Nat → Nat → Int32}
theorem mr_put {ix nx j cn ix2 kf : Nat} {v w : Int32} (hq : mm_at (mm_tab Y) pc = some (.putfield ix, nx, j, v)) (hf : mm_fu[j]? = some (cn, ix2, 8, kf)) (h : mo_is M0 M x A) (hl : Nat.blt kf (mo_f x).length = true) (hw : mm_fit (mm_tf 8 kf) (.int w) = true) (he : (mo_f x).set kf (.int w) = mo_f (upd x kf w)) (kk : ∀ M', mo_is M0 M' (upd x kf w) A → mm_Go l sc Y k n M' L S nx Q) : mm_Go l sc Y k n M L (.int w :: .ref 54 :: S) pc Q := by
  obtain ⟨h1, h2, h3⟩ := h
  refine mg_put hq hf h2 hl hw (kk _ ⟨h1.tr (mm_on.set M _ (by unfold mm_rg; omega)), ?_, fun i hi => mm_at_ne (by omega) (h3 i hi)⟩)
  rw [← he]
  exact mm_at_set _ h2
theorem mr_ist {nx aux j : Nat} {v z : Int32} (i : Nat) (hq : mm_at (mm_tab Y) pc = some (.iastore, nx, aux, v)) (h : mo_is M0 M x A) (hi : i < 11) (hj : j < mo_n i) (kk : ∀ M', mo_is M0 M' x (aup A i (upd (A i) j z)) → mm_Go l sc Y k n M' L S nx Q) : mm_Go l sc Y k n M L (.int z :: .int (nI j) :: .ref (55 + i) :: S) pc Q := by
  obtain ⟨h1, h2, h3⟩ := h
  refine mg_istN hq (h3 i hi) (mo_n_lt i) hj (kk _ ⟨h1.tr (mm_on.set M _ (by unfold mm_rg; omega)), mm_at_ne (by omega) h2, fun i2 hi2 => ?_⟩)
  by_cases e : i2 = i
  · subst e
    rw [aup_s]
    exact mm_at_set _ (h3 i2 hi2)
  · rw [aup_n e]
    exact mm_at_ne (by omega) (h3 i2 hi2)
theorem mr_ild {nx aux j : Nat} {v : Int32} (i : Nat) (hq : mm_at (mm_tab Y) pc = some (.iaload, nx, aux, v)) (h : mo_is M0 M x A) (hi : i < 11) (hj : j < mo_n i) (kk : mm_Go l sc Y k n M L (.int (A i j) :: S) nx Q) : mm_Go l sc Y k n M L (.int (nI j) :: .ref (55 + i) :: S) pc Q := mg_ildN hq (h.2.2 i hi) (mo_n_lt i) hj kk
end
section
variable {l : Launch} {sc : Nat × (Nat → Int32)} {M0 M : mm_M} {Q : mm_O → mm_M → Prop} {x : Nat → Int32} {A : Nat → Nat → Int32}
theorem c_Mo_in {z lo hi : Int32} (hY : lo.toInt ≤ z.toInt → z.toInt ≤ hi.toInt → Q (.inl (some (.int (nI 1)))) M) (hN : (z.toInt < lo.toInt ∨ hi.toInt < z.toInt) → Q (.inl (some (.int (nI 0)))) M) : mm_Ct l sc Y_Mo_in M [.int z, .int lo, .int hi] Q := by
  refine mm_by k_Mo_in w_Mo_in rfl rfl ?_
  refine mg_run 2 rfl ?_
  refine mg_icmp rfl (fun h => ?_) (fun h => ?_)
  · have h1 : z < lo := h
    rw [Int32.lt_iff_toInt_lt] at h1
    refine mg_run 1 rfl ?_
    exact mg_zr rfl rfl (Or.inl rfl) rfl rfl (hN (Or.inl h1))
  · have h1 : ¬ z < lo := h
    rw [Int32.lt_iff_toInt_lt] at h1
    refine mg_run 2 rfl ?_
    refine mg_icmp rfl (fun h => ?_) (fun h => ?_)
    · have h2 : hi < z := h
      rw [Int32.lt_iff_toInt_lt] at h2
      refine mg_run 1 rfl ?_
      exact mg_zr rfl rfl (Or.inl rfl) rfl rfl (hN (Or.inr h2))
    · have h2 : ¬ hi < z := h
      rw [Int32.lt_iff_toInt_lt] at h2
      refine mg_run 2 rfl ?_
      exact mg_zr rfl rfl (Or.inr rfl) rfl rfl (hY (by omega) (by omega))
theorem c_Mo_isSlot {z : Int32} (hY : ¬ no_slot z → Q (.inl (some (.int (nI 1)))) M) (hN : no_slot z → Q (.inl (some (.int (nI 0)))) M) : mm_Ct l sc Y_Mo_isSlot M [.int z] Q := by
  refine mm_by k_Mo_isSlot w_Mo_isSlot rfl rfl ?_
  refine mg_run 3 rfl ?_
  have e0 : (nI 0).toInt = 0 := by decide
  have e1 : (nI 11).toInt = 11 := by decide
  refine mg_callS [.int z, .int (nI 0), .int (nI 11)] rfl rfl rfl rfl rfl rfl (c_Mo_in (fun h1 h2 => ?_) (fun h1 => ?_))
  · exact mg_zr rfl rfl (Or.inr rfl) rfl rfl (hY (by unfold no_slot; omega))
  · exact mg_zr rfl rfl (Or.inl rfl) rfl rfl (hN (by unfold no_slot; omega))
theorem c_Mo_isLetter {z : Int32} (hY : is_let z → Q (.inl (some (.int (nI 1)))) M) (hN : ¬ is_let z → Q (.inl (some (.int (nI 0)))) M) : mm_Ct l sc Y_Mo_isLetter M [.int z] Q := by
  refine mm_by k_Mo_isLetter w_Mo_isLetter rfl rfl ?_
  refine mg_run 3 rfl ?_
  have e0 : (nI 97).toInt = 97 := by decide
  have e1 : (nI 122).toInt = 122 := by decide
  refine mg_callS [.int z, .int (nI 97), .int (nI 122)] rfl rfl rfl rfl rfl rfl (c_Mo_in (fun h1 h2 => ?_) (fun h1 => ?_))
  · exact mg_zr rfl rfl (Or.inr rfl) rfl rfl (hY (by unfold is_let; omega))
  · exact mg_zr rfl rfl (Or.inl rfl) rfl rfl (hN (by unfold is_let; omega))
def is_ix (z : Int32) : Prop := 0 ≤ z.toInt ∧ z.toInt ≤ 9999
theorem c_Mo_isIndex {z : Int32} (hY : is_ix z → Q (.inl (some (.int (nI 1)))) M) (hN : ¬ is_ix z → Q (.inl (some (.int (nI 0)))) M) : mm_Ct l sc Y_Mo_isIndex M [.int z] Q := by
  refine mm_by k_Mo_isIndex w_Mo_isIndex rfl rfl ?_
  refine mg_run 3 rfl ?_
  have e0 : (nI 0).toInt = 0 := by decide
  have e1 : (nI 9999).toInt = 9999 := by decide
  refine mg_callS [.int z, .int (nI 0), .int (nI 9999)] rfl rfl rfl rfl rfl rfl (c_Mo_in (fun h1 h2 => ?_) (fun h1 => ?_))
  · exact mg_zr rfl rfl (Or.inr rfl) rfl rfl (hY (by unfold is_ix; omega))
  · exact mg_zr rfl rfl (Or.inl rfl) rfl rfl (hN (by unfold is_ix; omega))
theorem c_Mo_isLeaf {z : Int32} (hY : ¬ z = -1 → ¬ z = -2 → Q (.inl (some (.int (nI 1)))) M) (hN : (z = -1 ∨ z = -2) → Q (.inl (some (.int (nI 0)))) M) : mm_Ct l sc Y_Mo_isLeaf M [.int z] Q := by
  refine mm_by k_Mo_isLeaf w_Mo_isLeaf rfl rfl ?_
  refine mg_run 2 rfl ?_
  refine mg_icmp rfl (fun h => ?_) (fun h => ?_)
  · refine mg_run 1 rfl ?_
    exact mg_zr rfl rfl (Or.inl rfl) rfl rfl (hN (Or.inl h))
  · refine mg_run 2 rfl ?_
    refine mg_icmp rfl (fun h2 => ?_) (fun h2 => ?_)
    · refine mg_run 1 rfl ?_
      exact mg_zr rfl rfl (Or.inl rfl) rfl rfl (hN (Or.inr h2))
    · refine mg_run 2 rfl ?_
      exact mg_zr rfl rfl (Or.inr rfl) rfl rfl (hY h h2)
theorem c_Mo_thrown (h : mo_is M0 M x A) (hQ : Q (.inl (some (.int (x 0)))) M) : mm_Ct l sc Y_Mo_thrown M [.ref 54] Q := by
  refine mm_by k_Mo_thrown w_Mo_thrown rfl rfl ?_
  refine mg_run 1 rfl ?_
  refine mg_get rfl rfl h.2.1 rfl ?_
  exact mg_ir rfl rfl rfl rfl hQ
/-- the second half of throwing -/
theorem lp_Mo_throwing (h : mo_is M0 M x A) {t : Nat} (ht : t < 3) (hx : x 0 = nI t) {a b : Int32} (hQ : Q (.inl (some (.int (nI (if t = 0 then 0 else 1))))) M) : mm_Go l sc Y_Mo_throwing 0 0 M [some (.ref 54), some (.int a), some (.int b)] [] 21 Q := by
  refine mg_run 1 rfl ?_
  refine mg_get rfl rfl h.2.1 rfl ?_
  rw [hx]
  refine mg_zle rfl (by omega) (fun h9 => ?_) (fun h9 => ?_)
  · rw [if_pos h9] at hQ
    refine mg_run 1 rfl ?_
    exact mg_zr rfl rfl (Or.inl rfl) rfl rfl hQ
  · rw [if_neg (by omega)] at hQ
    refine mg_run 2 rfl ?_
    exact mg_zr rfl rfl (Or.inr rfl) rfl rfl hQ
theorem c_Mo_throwing (h : mo_is M0 M x A) {a b : Nat} (ha : a < 2) (hb : b < 2)
    (h0 : a = 0 → b = 0 → ∀ M', mo_is M0 M' (upd x 0 (nI 0)) A → Q (.inl (some (.int (nI 0)))) M')
    (h1 : 0 < a → ∀ M', mo_is M0 M' (upd x 0 (nI 1)) A → Q (.inl (some (.int (nI 1)))) M')
    (h2 : a = 0 → 0 < b → ∀ M', mo_is M0 M' (upd x 0 (nI 2)) A → Q (.inl (some (.int (nI 1)))) M') : mm_Ct l sc Y_Mo_throwing M [.ref 54, .int (nI a), .int (nI b)] Q := by
  refine mm_by k_Mo_throwing w_Mo_throwing rfl rfl ?_
  refine mg_run 2 rfl ?_
  refine mg_zeq rfl (by omega) (fun e1 => ?_) (fun e1 => ?_)
  · refine mg_run 1 rfl ?_
    refine mg_zeq rfl (by omega) (fun e2 => ?_) (fun e2 => ?_)
    · refine mg_run 1 rfl ?_
      refine mr_put rfl rfl h rfl rfl rfl (fun M1 q1 => ?_)
      exact lp_Mo_throwing q1 (t := 0) (by decide) pk_us (h0 e1 e2 M1 q1)
    · refine mg_run 2 rfl ?_
      refine mr_put rfl rfl h rfl rfl rfl (fun M1 q1 => ?_)
      exact lp_Mo_throwing q1 (t := 2) (by decide) pk_us (h2 e1 e2 M1 q1)
  · refine mg_run 2 rfl ?_
    refine mr_put rfl rfl h rfl rfl rfl (fun M1 q1 => ?_)
    exact lp_Mo_throwing q1 (t := 1) (by decide) pk_us (h1 e1 M1 q1)
theorem c_Mo_place (h : mo_is M0 M x A) (hQ : ∀ M', mo_is M0 M' (upd x 0 (nI 0)) A → Q (.inl (some (.int (x 3)))) M') : mm_Ct l sc Y_Mo_place M [.ref 54] Q := by
  refine mm_by k_Mo_place w_Mo_place rfl rfl ?_
  refine mg_run 2 rfl ?_
  refine mr_put rfl rfl h rfl rfl rfl (fun M1 q1 => ?_)
  refine mg_run 1 rfl ?_
  refine mg_get rfl rfl q1.2.1 rfl ?_
  exact mg_ir rfl rfl rfl rfl (hQ M1 q1)
theorem c_Mo_how (h : mo_is M0 M x A) (hQ : ∀ M', mo_is M0 M' (upd x 0 (nI 0)) A → Q (.inl (some (.int (x 4)))) M') : mm_Ct l sc Y_Mo_how M [.ref 54] Q := by
  refine mm_by k_Mo_how w_Mo_how rfl rfl ?_
  refine mg_run 2 rfl ?_
  refine mr_put rfl rfl h rfl rfl rfl (fun M1 q1 => ?_)
  refine mg_run 1 rfl ?_
  refine mg_get rfl rfl q1.2.1 rfl ?_
  exact mg_ir rfl rfl rfl rfl (hQ M1 q1)
end
