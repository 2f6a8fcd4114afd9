/-! The tape; letters, digits, combinators; stacks in arrays; depths. -/
def ta_is (M : mm_M) (t : Nat) (b : List Nat) : Prop := ∃ f : Nat → Int32, M[t]? = some (.inr (5, [.ref (t + 1), .int (nI b.length)])) ∧ M[t + 1]? = some (.inl (0, 400, .inl f)) ∧ (∀ i, i < b.length → f i = nI (b.getD i 0)) ∧ b.length ≤ 400
theorem ta_is.keep {P : Nat → Prop} {M M' : mm_M} {t : Nat} {b : List Nat} (h : ta_is M t b) (hon : mm_on P M M') (h1 : ¬ P t) (h2 : ¬ P (t + 1)) : ta_is M' t b := by
  obtain ⟨f, a1, a2, a3, a4⟩ := h
  exact ⟨f, by rw [hon t h1]; exact a1, by rw [hon (t + 1) h2]; exact a2, a3, a4⟩
def is_let (x : Int32) : Prop := 97 ≤ x.toInt ∧ x.toInt ≤ 122
def is_dig (v : Nat) : Prop := 48 ≤ v ∧ v ≤ 57
def is_com (v : Nat) : Prop := v = 83 ∨ v = 75 ∨ v = 73
section
variable {l : Launch} {sc : Nat × (Nat → Int32)} {M : mm_M} {Q : mm_O → mm_M → Prop} {t : Nat} {b : List Nat}
theorem c_LB_isLetter {x : Int32} (hY : is_let x → Q (.inl (some (.int (nI 1)))) M) (hN : ¬ is_let x → Q (.inl (some (.int (nI 0)))) M) : mm_Ct l sc Y_LB_isLetter M [.int x] Q := by
  refine mm_by k_LB_isLetter w_LB_isLetter rfl rfl ?_
  refine mg_run 2 rfl ?_
  refine mg_icmp rfl (fun h => ?_) (fun h => ?_)
  · refine mg_run 1 rfl ?_
    refine mg_zr rfl rfl (Or.inl rfl) rfl rfl (hN (fun h9 => ?_))
    have h8 := (i32_lt x (n := 97) (by decide)).mp h
    have h7 := h9.1
    omega
  · have h8 : ¬ x.toInt < 97 := fun h9 => h ((i32_lt x (n := 97) (by decide)).mpr h9)
    refine mg_run 2 rfl ?_
    refine mg_icmp rfl (fun h2 => ?_) (fun h2 => ?_)
    · refine mg_run 1 rfl ?_
      refine mg_zr rfl rfl (Or.inl rfl) rfl rfl (hN (fun h9 => ?_))
      have h6 := (i32_gt x (n := 122) (by decide)).mp h2
      have h7 := h9.2
      omega
    · have h6 : ¬ 122 < x.toInt := fun h9 => h2 ((i32_gt x (n := 122) (by decide)).mpr h9)
      refine mg_run 2 rfl ?_
      exact mg_zr rfl rfl (Or.inr rfl) rfl rfl (hY ⟨by omega, by omega⟩)
theorem c_LB_isDigit {v : Nat} (hv : v < 2 ^ 31) (hY : is_dig v → Q (.inl (some (.int (nI 1)))) M) (hN : ¬ is_dig v → Q (.inl (some (.int (nI 0)))) M) : mm_Ct l sc Y_LB_isDigit M [.int (nI v)] Q := by
  refine mm_by k_LB_isDigit w_LB_isDigit rfl rfl ?_
  refine mg_run 2 rfl ?_
  refine mg_lt rfl hv (by decide) (fun h => ?_) (fun h => ?_)
  · refine mg_run 1 rfl ?_
    exact mg_zr rfl rfl (Or.inl rfl) rfl rfl (hN (fun h9 => absurd h9.1 (by omega)))
  · refine mg_run 2 rfl ?_
    refine mg_gt rfl hv (by decide) (fun h2 => ?_) (fun h2 => ?_)
    · refine mg_run 1 rfl ?_
      exact mg_zr rfl rfl (Or.inl rfl) rfl rfl (hN (fun h9 => absurd h9.2 (by omega)))
    · refine mg_run 2 rfl ?_
      exact mg_zr rfl rfl (Or.inr rfl) rfl rfl (hY ⟨h, h2⟩)
theorem c_LB_isCombinator {v : Nat} (hv : v < 2 ^ 31) (hY : is_com v → Q (.inl (some (.int (nI 1)))) M) (hN : ¬ is_com v → Q (.inl (some (.int (nI 0)))) M) : mm_Ct l sc Y_LB_isCombinator M [.int (nI v)] Q := by
  refine mm_by k_LB_isCombinator w_LB_isCombinator rfl rfl ?_
  refine mg_run 2 rfl ?_
  refine mg_eq rfl hv (by decide) (fun h => ?_) (fun h => ?_)
  · refine mg_run 2 rfl ?_
    exact mg_zr rfl rfl (Or.inr rfl) rfl rfl (hY (Or.inl h))
  · refine mg_run 2 rfl ?_
    refine mg_eq rfl hv (by decide) (fun h2 => ?_) (fun h2 => ?_)
    · refine mg_run 2 rfl ?_
      exact mg_zr rfl rfl (Or.inr rfl) rfl rfl (hY (Or.inr (Or.inl h2)))
    · refine mg_run 2 rfl ?_
      refine mg_ne rfl hv (by decide) (fun h3 => ?_) (fun h3 => ?_)
      · refine mg_run 1 rfl ?_
        refine mg_zr rfl rfl (Or.inl rfl) rfl rfl (hN ?_)
        rintro (h9 | h9 | h9)
        · exact h h9
        · exact h2 h9
        · exact h3 h9
      · refine mg_run 2 rfl ?_
        exact mg_zr rfl rfl (Or.inr rfl) rfl rfl (hY (Or.inr (Or.inr h3)))
theorem c_Ta_length (h : ta_is M t b) (hQ : Q (.inl (some (.int (nI b.length)))) M) : mm_Ct l sc Y_Ta_length M [.ref t] Q := by
  obtain ⟨f, a1, a2, a3, a4⟩ := h
  refine mm_by k_Ta_length w_Ta_length rfl rfl ?_
  refine mg_run 1 rfl ?_
  refine mg_get rfl rfl a1 rfl ?_
  exact mg_ir rfl rfl rfl rfl hQ
theorem c_Ta_at (h : ta_is M t b) {i : Nat} (hi : i < 2 ^ 31) (hQ : Q (.inl (some (.int (nI (b.getD i 0))))) M) : mm_Ct l sc Y_Ta_at M [.ref t, .int (nI i)] Q := by
  obtain ⟨f, a1, a2, a3, a4⟩ := h
  refine mm_by k_Ta_at w_Ta_at rfl rfl ?_
  refine mg_run 1 rfl ?_
  refine mg_zlt rfl hi ?_
  refine mg_run 2 rfl ?_
  refine mg_get rfl rfl a1 rfl ?_
  refine mg_ge rfl hi (by omega) (fun h => ?_) (fun h => ?_)
  · refine mg_run 1 rfl ?_
    rw [te_getD h] at hQ
    exact mg_ir rfl rfl rfl rfl hQ
  · refine mg_run 1 rfl ?_
    refine mg_get rfl rfl a1 rfl ?_
    refine mg_run 1 rfl ?_
    refine mg_ildN rfl a2 (by decide) (by omega) ?_
    refine mg_run 1 rfl ?_
    rw [a3 i h]
    exact mg_ir rfl rfl rfl rfl hQ
theorem c_Ta_clear (h : ta_is M t b) (hQ : ∀ M', ta_is M' t [] → mm_on (te_P t) M M' → Q (.inl none) M') : mm_Ct l sc Y_Ta_clear M [.ref t] Q := by
  obtain ⟨f, a1, a2, a3, a4⟩ := h
  refine mm_by k_Ta_clear w_Ta_clear rfl rfl ?_
  refine mg_run 2 rfl ?_
  refine mg_put rfl rfl a1 rfl rfl ?_
  have b1 := mm_at_set (.inr (5, [.ref (t + 1), .int (nI 0)])) a1
  refine mg_vr rfl rfl rfl rfl ?_
  exact hQ _ ⟨f, b1, mm_at_ne (by omega) a2, fun i hi => absurd hi (Nat.not_lt_zero i), Nat.zero_le _⟩ (mm_on.set M _ (Or.inl rfl))
theorem c_Ta_add (h : ta_is M t b) (hl : b.length < 400) {v : Nat} (hQ : ∀ M', ta_is M' t (b ++ [v]) → mm_on (te_P t) M M' → Q (.inl none) M') : mm_Ct l sc Y_Ta_add M [.ref t, .int (nI v)] Q := by
  obtain ⟨f, a1, a2, a3, a4⟩ := h
  refine mm_by k_Ta_add w_Ta_add rfl rfl ?_
  refine mg_run 1 rfl ?_
  refine mg_get rfl rfl a1 rfl ?_
  refine mg_run 1 rfl ?_
  refine mg_ge rfl (by omega) (by omega) (fun h => absurd h (by omega)) (fun h => ?_)
  refine mg_run 1 rfl ?_
  refine mg_get rfl rfl a1 rfl ?_
  refine mg_run 1 rfl ?_
  refine mg_get rfl rfl a1 rfl ?_
  refine mg_run 1 rfl ?_
  refine mg_istN rfl a2 (by decide) h ?_
  have b2 := mm_at_set (.inl (0, 400, .inl (upd f b.length (nI v)))) a2
  have b1 : (M.set (t + 1) (.inl (0, 400, .inl (upd f b.length (nI v)))))[t]? = some (.inr (5, [.ref (t + 1), .int (nI b.length)])) := mm_at_ne (by omega) a1
  refine mg_run 2 rfl ?_
  refine mg_get rfl rfl b1 rfl ?_
  refine mg_run 1 rfl ?_
  refine mg_addN rfl ?_
  refine mg_put rfl rfl b1 rfl rfl ?_
  have c1 := mm_at_set (.inr (5, [.ref (t + 1), .int (nI (b.length + 1))])) b1
  refine mg_vr rfl rfl rfl rfl ?_
  refine hQ _ ⟨upd f b.length (nI v), ?_, mm_at_ne (by omega) b2, te_upd a3, by simp; omega⟩ ?_
  · rw [List.length_append]; exact c1
  · exact (mm_on.set M _ (Or.inr rfl)).tr (mm_on.set _ _ (Or.inl rfl))
/-- the number behind the # at i: one digit or two -/
def ta_num (b : List Nat) (i : Nat) : Nat := if 48 ≤ b.getD (i + 2) 0 ∧ b.getD (i + 2) 0 ≤ 57 then 10 * (b.getD (i + 1) 0 - 48) + (b.getD (i + 2) 0 - 48) else b.getD (i + 1) 0 - 48
theorem c_Ta_numberBehind (h : ta_is M t b) {i : Nat} (hi : i < 100000) (hb : ∀ j, b.getD j 0 < 256) (h1 : 48 ≤ b.getD (i + 1) 0) (hQ : Q (.inl (some (.int (nI (ta_num b i))))) M) : mm_Ct l sc Y_Ta_numberBehind M [.ref t, .int (nI i)] Q := by
  obtain ⟨f, a1, a2, a3, a4⟩ := id h
  have hb1 := hb (i + 1)
  have hb2 := hb (i + 2)
  refine mm_by k_Ta_numberBehind w_Ta_numberBehind rfl rfl ?_
  refine mg_run 3 rfl ?_
  refine mg_addN rfl ?_
  refine mg_callV [.int (nI (i + 1))] rfl rfl rfl a1 rfl rfl rfl rfl (c_Ta_at h (by omega) ?_)
  refine mg_run 1 rfl ?_
  refine mg_subN rfl h1 ?_
  refine mg_run 4 rfl ?_
  refine mg_addN rfl ?_
  refine mg_callV [.int (nI (i + 2))] rfl rfl rfl a1 rfl rfl rfl rfl (c_Ta_at h (by omega) ?_)
  refine mg_run 2 rfl ?_
  refine mg_callN [.int (nI (b.getD (i + 2) 0))] rfl rfl rfl rfl rfl (c_LB_isDigit (by omega) (fun hd => ?_) (fun hd => ?_))
  · refine mg_zeq rfl (by decide) (fun h9 => absurd h9 (by decide)) (fun h9 => ?_)
    refine mg_run 2 rfl ?_
    refine mg_mulN rfl ?_
    refine mg_run 1 rfl ?_
    refine mg_addN rfl ?_
    refine mg_run 1 rfl ?_
    refine mg_subN rfl (by have := hd.1; omega) ?_
    refine mg_run 1 rfl ?_
    refine mg_ir rfl rfl rfl rfl ?_
    have hd' : 48 ≤ b.getD (i + 2) 0 ∧ b.getD (i + 2) 0 ≤ 57 := hd
    rw [ta_num, if_pos hd'] at hQ
    have e : 10 * (b.getD (i + 1) 0 - 48) + b.getD (i + 2) 0 - 48 = 10 * (b.getD (i + 1) 0 - 48) + (b.getD (i + 2) 0 - 48) := by have := hd.1; omega
    rw [e]
    exact hQ
  · refine mg_zeq rfl (by decide) (fun h9 => ?_) (fun h9 => absurd h9 (by decide))
    refine mg_run 1 rfl ?_
    refine mg_ir rfl rfl rfl rfl ?_
    have hd' : ¬ (48 ≤ b.getD (i + 2) 0 ∧ b.getD (i + 2) 0 ≤ 57) := hd
    rw [ta_num, if_neg hd'] at hQ
    exact hQ
end
/-! stacks that lie in arrays -/
def sk_in (w : Nat → Int32) (st : List Nat) : Prop := ∀ j, j < st.length → w j = nI (st.reverse.getD j 0)
theorem sk_top {w : Nat → Int32} {d : Nat} {st : List Nat} (h : sk_in w (d :: st)) : w st.length = nI d := by
  have h9 := h st.length (by simp)
  rw [h9]
  simp [List.getD, List.getElem?_append_right]
theorem sk_pop {w : Nat → Int32} {d : Nat} {st : List Nat} (h : sk_in w (d :: st)) : sk_in w st := by
  intro j hj
  rw [h j (by simp; omega)]
  simp [List.getD, List.getElem?_append_left (show j < st.reverse.length by simpa using hj)]
theorem sk_push {w : Nat → Int32} {d : Nat} {st : List Nat} (h : sk_in w st) : sk_in (upd w st.length (nI d)) (d :: st) := by
  intro j hj
  have hj' : j < st.length + 1 := by simpa using hj
  by_cases e : j = st.length
  · subst e
    rw [pk_us]
    simp [List.getD, List.getElem?_append_right]
  · rw [pk_un e, h j (by omega)]
    simp [List.getD, List.getElem?_append_left (show j < st.reverse.length by simp; omega)]
/-- the depths of a part, by the stack of depths that are still to come -/
def te_ms : List Nat → List Nat → List Nat
  | [], _ => []
  | _ :: _, [] => []
  | c :: l, d :: st => d :: te_ms l (if c = 64 then d :: d :: st else if c = 92 then (d + 1) :: st else st)
theorem te_ms_len : ∀ (l st : List Nat), (te_ms l st).length = te_sc l st.length := by
  intro l
  induction l with
  | nil => intro st; rfl
  | cons c l ih =>
    intro st
    cases st with
    | nil => rfl
    | cons d st =>
      show (te_ms l _).length + 1 = te_sc l _ + 1
      rw [ih]
      congr 2
      split
      · rfl
      · split
        · rfl
        · rfl
def de_is (M : mm_M) (d : Nat) (dep : Nat → Int32) : Prop := ∃ w : Nat → Int32, M[d]? = some (.inr (2, [.ref (d + 1), .ref (d + 2)])) ∧ M[d + 1]? = some (.inl (0, 2000, .inl dep)) ∧ M[d + 2]? = some (.inl (0, 2002, .inl w))
def de_P (d i : Nat) : Prop := i = d + 1 ∨ i = d + 2
theorem de_is.keep {P : Nat → Prop} {M M' : mm_M} {d : Nat} {dep : Nat → Int32} (h : de_is M d dep) (hon : mm_on P M M') (h0 : ¬ P d) (h1 : ¬ P (d + 1)) (h2 : ¬ P (d + 2)) : de_is M' d dep := by
  obtain ⟨w, a1, a2, a3⟩ := h
  exact ⟨w, by rw [hon d h0]; exact a1, by rw [hon (d + 1) h1]; exact a2, by rw [hon (d + 2) h2]; exact a3⟩
