/-! Terms: comparing, searching, ends of parts, redexes. -/
theorem te_drop {r : List Nat} {i : Nat} (h : i < r.length) : r.drop i = r.getD i 0 :: r.drop (i + 1) := by
  rw [List.drop_eq_getElem_cons h]
  simp [List.getD, List.getElem?_eq_getElem h]
theorem te_ext {r r2 : List Nat} (h : r.length = r2.length) (h2 : ∀ i, i < r.length → r.getD i 0 = r2.getD i 0) : r = r2 := by
  refine List.ext_getElem h (fun i p1 p2 => ?_)
  have h9 := h2 i p1
  simpa [List.getD, List.getElem?_eq_getElem p1, List.getElem?_eq_getElem p2] using h9
/-- how far the part that begins here goes, o parts wanted -/
def te_sc : List Nat → Nat → Nat
  | [], _ => 0
  | _ :: _, 0 => 0
  | c :: l, o + 1 => te_sc l (if c = 64 then o + 2 else if c = 92 then o + 1 else o) + 1
theorem te_sc0 (l : List Nat) : te_sc l 0 = 0 := by cases l <;> rfl
/-- the head of the redex at i; 0: none -/
def te_rh (r : List Nat) (i : Nat) : Nat :=
  if r.getD i 0 = 64 then
    if r.getD (i + 1) 0 = 92 then 92 else if r.getD (i + 1) 0 = 73 then 73 else
    if r.getD (i + 1) 0 = 64 then
      if r.getD (i + 2) 0 = 75 then 75 else if r.getD (i + 2) 0 = 64 then (if r.getD (i + 3) 0 = 83 then 83 else 0) else 0
    else 0
  else 0
/-- the first redex from i on, m places looked at -/
def te_fr (r : List Nat) : Nat → Nat → Option Nat
  | 0, _ => none
  | m + 1, i => if te_rh r i = 0 then te_fr r m (i + 1) else some i
def te_fv : Option Nat → Int32
  | none => -1
  | some i => nI i
section
variable {l : Launch} {sc : Nat × (Nat → Int32)} {M : mm_M} {Q : mm_O → mm_M → Prop} {t g t2 g2 : Nat} {r r2 : List Nat}
theorem lp_Te_isLike (h : te_is M t r g) (h2 : te_is M t2 r2 g2) (hb : ∀ i, r.getD i 0 < 2 ^ 31) (hb2 : ∀ i, r2.getD i 0 < 2 ^ 31) (hl : r.length = r2.length) (hQ : Q (.inl (some (.int (nI (if r = r2 then 1 else 0))))) M) : ∀ m i, r.length - i = m → i ≤ r.length → (∀ j, j < i → r.getD j 0 = r2.getD j 0) → mm_Go l sc Y_Te_isLike 0 0 M [some (.ref t), some (.ref t2), some (.int (nI i))] [] 15 Q := by
  obtain ⟨f, a1, a2, a3, a4, a5⟩ := h
  obtain ⟨f2, b1, b2, b3, b4, b5⟩ := h2
  intro m
  induction m with
  | zero =>
    intro i hm hi hj
    have e : i = r.length := by omega
    subst e
    refine mg_run 2 rfl ?_
    refine mg_get rfl rfl a1 rfl ?_
    refine mg_ge rfl (by omega) (by omega) (fun h => ?_) (fun h => absurd h (by omega))
    refine mg_run 1 rfl ?_
    refine mg_zret rfl rfl (Or.inr rfl) (Nat.le_of_ble_eq_true rfl) (Nat.le_of_ble_eq_true rfl) ?_
    rw [if_pos (te_ext hl hj)] at hQ
    exact hQ
  | succ m ih =>
    intro i hm hi hj
    refine mg_run 2 rfl ?_
    refine mg_get rfl rfl a1 rfl ?_
    refine mg_ge rfl (by omega) (by omega) (fun h => absurd h (by omega)) (fun h => ?_)
    refine mg_run 1 rfl ?_
    refine mg_get rfl rfl a1 rfl ?_
    refine mg_run 1 rfl ?_
    refine mg_ildN rfl a2 (by decide) (by omega) ?_
    rw [a3 i h]
    refine mg_run 1 rfl ?_
    refine mg_get rfl rfl b1 rfl ?_
    refine mg_run 1 rfl ?_
    refine mg_ildN rfl b2 (by decide) (by omega) ?_
    rw [b3 i (by omega)]
    refine mg_eq rfl (hb i) (hb2 i) (fun h9 => ?_) (fun h9 => ?_)
    · refine mg_incN rfl rfl rfl ?_
      refine mg_run 1 rfl ?_
      exact ih (i + 1) (by omega) (by omega) (fun j hj9 => by
        by_cases e : j = i
        · rw [e]; exact h9
        · exact hj j (by omega))
    · refine mg_run 1 rfl ?_
      refine mg_zret rfl rfl (Or.inl rfl) (Nat.le_of_ble_eq_true rfl) (Nat.le_of_ble_eq_true rfl) ?_
      rw [if_neg (fun e => h9 (by rw [e]))] at hQ
      exact hQ
theorem c_Te_isLike (h : te_is M t r g) (h2 : te_is M t2 r2 g2) (hb : ∀ i, r.getD i 0 < 2 ^ 31) (hb2 : ∀ i, r2.getD i 0 < 2 ^ 31) (hQ : Q (.inl (some (.int (nI (if r = r2 then 1 else 0))))) M) : mm_Ct l sc Y_Te_isLike M [.ref t, .ref t2] Q := by
  have g1 := h.len
  have g2 := h2.len
  obtain ⟨f, a1, a2, a3, a4, a5⟩ := id h
  obtain ⟨f2, b1, b2, b3, b4, b5⟩ := id h2
  refine mm_of k_Te_isLike w_Te_isLike rfl (Nat.le_of_ble_eq_true rfl) ?_
  refine mg_run 1 rfl ?_
  refine mg_get rfl rfl a1 rfl ?_
  refine mg_run 1 rfl ?_
  refine mg_get rfl rfl b1 rfl ?_
  refine mg_eq rfl (by omega) (by omega) (fun h9 => ?_) (fun h9 => ?_)
  · refine mg_run 2 rfl ?_
    exact lp_Te_isLike h h2 hb hb2 h9 hQ _ 0 rfl (Nat.zero_le _) (fun j hj => absurd hj (Nat.not_lt_zero j))
  · refine mg_run 1 rfl ?_
    refine mg_zret rfl rfl (Or.inl rfl) (Nat.le_of_ble_eq_true rfl) (Nat.le_of_ble_eq_true rfl) ?_
    rw [if_neg (fun e => h9 (by rw [e]))] at hQ
    exact hQ
theorem lp_Te_contains (h : te_is M t r g) (hb : ∀ i, r.getD i 0 < 2 ^ 31) {v : Nat} (hv : v < 2 ^ 31) (hQ : Q (.inl (some (.int (nI (if v ∈ r then 1 else 0))))) M) : ∀ m i, r.length - i = m → i ≤ r.length → v ∉ r.take i → mm_Go l sc Y_Te_contains 0 0 M [some (.ref t), some (.int (nI v)), some (.int (nI i))] [] 2 Q := by
  obtain ⟨f, a1, a2, a3, a4, a5⟩ := h
  intro m
  induction m with
  | zero =>
    intro i hm hi hj
    have e : i = r.length := by omega
    subst e
    refine mg_run 2 rfl ?_
    refine mg_get rfl rfl a1 rfl ?_
    refine mg_ge rfl (by omega) (by omega) (fun h => ?_) (fun h => absurd h (by omega))
    refine mg_run 1 rfl ?_
    refine mg_zret rfl rfl (Or.inl rfl) (Nat.le_of_ble_eq_true rfl) (Nat.le_of_ble_eq_true rfl) ?_
    rw [List.take_length] at hj
    rw [if_neg hj] at hQ
    exact hQ
  | succ m ih =>
    intro i hm hi hj
    refine mg_run 2 rfl ?_
    refine mg_get rfl rfl a1 rfl ?_
    refine mg_ge rfl (by omega) (by omega) (fun h => absurd h (by omega)) (fun h => ?_)
    refine mg_run 1 rfl ?_
    refine mg_get rfl rfl a1 rfl ?_
    refine mg_run 1 rfl ?_
    refine mg_ildN rfl a2 (by decide) (by omega) ?_
    rw [a3 i h]
    refine mg_run 1 rfl ?_
    have hg : r.getD i 0 = r[i] := by simp [List.getD, List.getElem?_eq_getElem h]
    refine mg_ne rfl (hb i) hv (fun h9 => ?_) (fun h9 => ?_)
    · refine mg_incN rfl rfl rfl ?_
      refine mg_run 1 rfl ?_
      refine ih (i + 1) (by omega) (by omega) ?_
      rw [List.take_succ_eq_append_getElem h, List.mem_append]
      rintro (h7 | h7)
      · exact hj h7
      · rw [List.mem_singleton] at h7
        exact h9 (by rw [hg, h7])
    · refine mg_run 1 rfl ?_
      refine mg_zret rfl rfl (Or.inr rfl) (Nat.le_of_ble_eq_true rfl) (Nat.le_of_ble_eq_true rfl) ?_
      rw [if_pos (by rw [← h9, hg]; exact List.getElem_mem h)] at hQ
      exact hQ
theorem c_Te_contains (h : te_is M t r g) (hb : ∀ i, r.getD i 0 < 2 ^ 31) {v : Nat} (hv : v < 2 ^ 31) (hQ : Q (.inl (some (.int (nI (if v ∈ r then 1 else 0))))) M) : mm_Ct l sc Y_Te_contains M [.ref t, .int (nI v)] Q := by
  refine mm_of k_Te_contains w_Te_contains rfl (Nat.le_of_ble_eq_true rfl) ?_
  refine mg_run 2 rfl ?_
  exact lp_Te_contains h hb hv hQ _ 0 rfl (Nat.zero_le _) (by simp)
theorem lp_Te_endOf (h : te_is M t r g) (hb : ∀ i, r.getD i 0 < 2 ^ 31) {x1 : Int32} : ∀ m i o (x4 : Option Value), r.length - i = m → i ≤ r.length → o + (r.length - i) ≤ 10000 → Q (.inl (some (.int (nI (i + te_sc (r.drop i) o))))) M → mm_Go l sc Y_Te_endOf 0 0 M [some (.ref t), some (.int x1), some (.int (nI o)), some (.int (nI i)), x4] [] 4 Q := by
  have h4 := h.len
  obtain ⟨f, a1, a2, a3, a4, a5⟩ := id h
  intro m
  induction m with
  | zero =>
    intro i o x4 hm hi ho hQ
    have e : i = r.length := by omega
    subst e
    refine mg_run 2 rfl ?_
    refine mg_get rfl rfl a1 rfl ?_
    refine mg_ge rfl (by omega) (by omega) (fun h => ?_) (fun h => absurd h (by omega))
    refine mg_run 1 rfl ?_
    refine mg_iret rfl rfl (Nat.le_of_ble_eq_true rfl) (Nat.le_of_ble_eq_true rfl) ?_
    rw [List.drop_length] at hQ
    exact hQ
  | succ m ih =>
    intro i o x4 hm hi ho hQ
    refine mg_run 2 rfl ?_
    refine mg_get rfl rfl a1 rfl ?_
    refine mg_ge rfl (by omega) (by omega) (fun h => absurd h (by omega)) (fun h9 => ?_)
    refine mg_run 1 rfl ?_
    refine mg_zle rfl (by omega) (fun h0 => ?_) (fun h0 => ?_)
    · subst h0
      refine mg_run 1 rfl ?_
      refine mg_iret rfl rfl (Nat.le_of_ble_eq_true rfl) (Nat.le_of_ble_eq_true rfl) ?_
      rw [te_sc0] at hQ
      exact hQ
    · obtain ⟨o', rfl⟩ : ∃ o', o = o' + 1 := ⟨o - 1, by omega⟩
      rw [te_drop h9] at hQ
      refine mg_run 2 rfl ?_
      refine mg_callV [.int (nI i)] rfl rfl rfl a1 rfl rfl rfl rfl (c_Te_at h (by omega) ?_)
      refine mg_run 3 rfl ?_
      refine mg_ne rfl (hb i) (by decide) (fun h7 => ?_) (fun h7 => ?_)
      · refine mg_run 2 rfl ?_
        refine mg_eq rfl (hb i) (by decide) (fun h6 => ?_) (fun h6 => ?_)
        · refine mg_incN rfl rfl rfl ?_
          refine mg_run 1 rfl ?_
          refine ih (i + 1) (o' + 1) _ (by omega) (by omega) (by omega) ?_
          rw [te_sc, if_neg h7, if_pos h6] at hQ
          rw [show i + 1 + te_sc (r.drop (i + 1)) (o' + 1) = i + (te_sc (r.drop (i + 1)) (o' + 1) + 1) by omega]
          exact hQ
        · refine mg_decN rfl rfl rfl ?_
          refine mg_incN rfl rfl rfl ?_
          refine mg_run 1 rfl ?_
          refine ih (i + 1) o' _ (by omega) (by omega) (by omega) ?_
          rw [te_sc, if_neg h7, if_neg h6] at hQ
          rw [show i + 1 + te_sc (r.drop (i + 1)) o' = i + (te_sc (r.drop (i + 1)) o' + 1) by omega]
          exact hQ
      · refine mg_incN rfl rfl rfl ?_
        refine mg_run 1 rfl ?_
        refine mg_incN rfl rfl rfl ?_
        refine mg_run 1 rfl ?_
        refine ih (i + 1) (o' + 1 + 1) _ (by omega) (by omega) (by omega) ?_
        rw [te_sc, if_pos h7] at hQ
        have e9 : o' + 2 = o' + 1 + 1 := rfl
        rw [e9] at hQ
        rw [show i + 1 + te_sc (r.drop (i + 1)) (o' + 1 + 1) = i + (te_sc (r.drop (i + 1)) (o' + 1 + 1) + 1) by omega]
        exact hQ
theorem c_Te_endOf (h : te_is M t r g) (hb : ∀ i, r.getD i 0 < 2 ^ 31) {i : Nat} (hi : i ≤ r.length) (hQ : Q (.inl (some (.int (nI (i + te_sc (r.drop i) 1))))) M) : mm_Ct l sc Y_Te_endOf M [.ref t, .int (nI i)] Q := by
  have h4 := h.len
  refine mm_of k_Te_endOf w_Te_endOf rfl (Nat.le_of_ble_eq_true rfl) ?_
  refine mg_run 4 rfl ?_
  exact lp_Te_endOf h hb _ i 1 none rfl hi (by omega) hQ
theorem c_Te_redexHead (h : te_is M t r g) (hb : ∀ i, r.getD i 0 < 2 ^ 31) {i : Nat} (hi : i < 1000000) (hQ : Q (.inl (some (.int (nI (te_rh r i))))) M) : mm_Ct l sc Y_Te_redexHead M [.ref t, .int (nI i)] Q := by
  obtain ⟨f, a1, a2, a3, a4, a5⟩ := id h
  refine mm_of k_Te_redexHead w_Te_redexHead rfl (Nat.le_of_ble_eq_true rfl) ?_
  refine mg_run 2 rfl ?_
  refine mg_callV [.int (nI i)] rfl rfl rfl a1 rfl rfl rfl rfl (c_Te_at h (by omega) ?_)
  refine mg_run 1 rfl ?_
  refine mg_eq rfl (hb _) (by decide) (fun p0 => ?_) (fun p0 => ?_)
  · refine mg_run 3 rfl ?_
    refine mg_addN rfl ?_
    refine mg_callV [.int (nI (i + 1))] rfl rfl rfl a1 rfl rfl rfl rfl (c_Te_at h (by omega) ?_)
    refine mg_run 3 rfl ?_
    refine mg_eq rfl (hb _) (by decide) (fun p1 => ?_) (fun p1 => ?_)
    · refine mg_run 1 rfl ?_
      refine mg_iret rfl rfl (Nat.le_of_ble_eq_true rfl) (Nat.le_of_ble_eq_true rfl) ?_
      rw [te_rh, if_pos p0, if_pos p1] at hQ
      rw [p1]; exact hQ
    · refine mg_run 2 rfl ?_
      refine mg_ne rfl (hb _) (by decide) (fun p2 => ?_) (fun p2 => ?_)
      · refine mg_run 2 rfl ?_
        refine mg_eq rfl (hb _) (by decide) (fun p3 => ?_) (fun p3 => ?_)
        · refine mg_run 3 rfl ?_
          refine mg_addN rfl ?_
          refine mg_callV [.int (nI (i + 2))] rfl rfl rfl a1 rfl rfl rfl rfl (c_Te_at h (by omega) ?_)
          refine mg_run 3 rfl ?_
          refine mg_ne rfl (hb _) (by decide) (fun p4 => ?_) (fun p4 => ?_)
          · refine mg_run 2 rfl ?_
            refine mg_ne rfl (hb _) (by decide) (fun p5 => ?_) (fun p5 => ?_)
            · refine mg_run 1 rfl ?_
              refine mg_iret rfl rfl (Nat.le_of_ble_eq_true rfl) (Nat.le_of_ble_eq_true rfl) ?_
              rw [te_rh, if_pos p0, if_neg p1, if_neg p2, if_pos p3, if_neg p4, if_neg p5] at hQ
              exact hQ
            · refine mg_run 3 rfl ?_
              refine mg_addN rfl ?_
              refine mg_callV [.int (nI (i + 3))] rfl rfl rfl a1 rfl rfl rfl rfl (c_Te_at h (by omega) ?_)
              refine mg_run 1 rfl ?_
              refine mg_ne rfl (hb _) (by decide) (fun p6 => ?_) (fun p6 => ?_)
              · refine mg_run 1 rfl ?_
                refine mg_iret rfl rfl (Nat.le_of_ble_eq_true rfl) (Nat.le_of_ble_eq_true rfl) ?_
                rw [te_rh, if_pos p0, if_neg p1, if_neg p2, if_pos p3, if_neg p4, if_pos p5, if_neg p6] at hQ
                exact hQ
              · refine mg_run 2 rfl ?_
                refine mg_iret rfl rfl (Nat.le_of_ble_eq_true rfl) (Nat.le_of_ble_eq_true rfl) ?_
                rw [te_rh, if_pos p0, if_neg p1, if_neg p2, if_pos p3, if_neg p4, if_pos p5, if_pos p6] at hQ
                exact hQ
          · refine mg_run 1 rfl ?_
            refine mg_iret rfl rfl (Nat.le_of_ble_eq_true rfl) (Nat.le_of_ble_eq_true rfl) ?_
            rw [te_rh, if_pos p0, if_neg p1, if_neg p2, if_pos p3, if_pos p4] at hQ
            exact hQ
        · refine mg_run 1 rfl ?_
          refine mg_iret rfl rfl (Nat.le_of_ble_eq_true rfl) (Nat.le_of_ble_eq_true rfl) ?_
          rw [te_rh, if_pos p0, if_neg p1, if_neg p2, if_neg p3] at hQ
          exact hQ
      · refine mg_run 1 rfl ?_
        refine mg_iret rfl rfl (Nat.le_of_ble_eq_true rfl) (Nat.le_of_ble_eq_true rfl) ?_
        rw [te_rh, if_pos p0, if_neg p1, if_pos p2] at hQ
        rw [p2]; exact hQ
  · refine mg_run 1 rfl ?_
    refine mg_iret rfl rfl (Nat.le_of_ble_eq_true rfl) (Nat.le_of_ble_eq_true rfl) ?_
    rw [te_rh, if_neg p0] at hQ
    exact hQ
theorem te_rh_lt (r : List Nat) (i : Nat) : te_rh r i < 2 ^ 31 := by
  unfold te_rh
  repeat' split
  all_goals decide
theorem lp_Te_firstRedex (h : te_is M t r g) (hb : ∀ i, r.getD i 0 < 2 ^ 31) : ∀ m i, r.length - i = m → i ≤ r.length → Q (.inl (some (.int (te_fv (te_fr r m i))))) M → mm_Go l sc Y_Te_firstRedex 0 0 M [some (.ref t), some (.int (nI i))] [] 2 Q := by
  have h4 := h.len
  obtain ⟨f, a1, a2, a3, a4, a5⟩ := id h
  intro m
  induction m with
  | zero =>
    intro i hm hi hQ
    have e : i = r.length := by omega
    subst e
    refine mg_run 2 rfl ?_
    refine mg_get rfl rfl a1 rfl ?_
    refine mg_ge rfl (by omega) (by omega) (fun h => ?_) (fun h => absurd h (by omega))
    refine mg_run 1 rfl ?_
    exact mg_iret rfl rfl (Nat.le_of_ble_eq_true rfl) (Nat.le_of_ble_eq_true rfl) hQ
  | succ m ih =>
    intro i hm hi hQ
    refine mg_run 2 rfl ?_
    refine mg_get rfl rfl a1 rfl ?_
    refine mg_ge rfl (by omega) (by omega) (fun h => absurd h (by omega)) (fun h9 => ?_)
    refine mg_run 2 rfl ?_
    refine mg_callV [.int (nI i)] rfl rfl rfl a1 rfl rfl rfl rfl (c_Te_redexHead h hb (by omega) ?_)
    refine mg_zeq rfl (te_rh_lt r i) (fun h7 => ?_) (fun h7 => ?_)
    · refine mg_incN rfl rfl rfl ?_
      refine mg_run 1 rfl ?_
      refine ih (i + 1) (by omega) (by omega) ?_
      rw [te_fr, if_pos h7] at hQ
      exact hQ
    · refine mg_run 1 rfl ?_
      refine mg_iret rfl rfl (Nat.le_of_ble_eq_true rfl) (Nat.le_of_ble_eq_true rfl) ?_
      rw [te_fr, if_neg (by omega)] at hQ
      exact hQ
theorem c_Te_firstRedex (h : te_is M t r g) (hb : ∀ i, r.getD i 0 < 2 ^ 31) (hQ : Q (.inl (some (.int (te_fv (te_fr r r.length 0))))) M) : mm_Ct l sc Y_Te_firstRedex M [.ref t] Q := by
  refine mm_of k_Te_firstRedex w_Te_firstRedex rfl (Nat.le_of_ble_eq_true rfl) ?_
  refine mg_run 2 rfl ?_
  exact lp_Te_firstRedex h hb _ 0 rfl (Nat.zero_le _) hQ
end
