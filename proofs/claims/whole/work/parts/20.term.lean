/-! The class's Terms: contracts of their methods. -/
section
variable {l : Launch} {sc : Nat × (Nat → Int32)} {M : mm_M} {Q : mm_O → mm_M → Prop} {t g : Nat} {r : List Nat}
theorem c_Te_length (h : te_is M t r g) (hQ : Q (.inl (some (.int (nI r.length)))) M) : mm_Ct l sc Y_Te_length M [.ref t] Q := by
  obtain ⟨f, a1, a2, a3, a4, a5⟩ := h
  refine mm_of k_Te_length w_Te_length rfl (Nat.le_of_ble_eq_true rfl) ?_
  refine mg_run 1 rfl ?_
  refine mg_get rfl rfl a1 rfl ?_
  exact mg_iret rfl rfl (Nat.le_of_ble_eq_true rfl) (Nat.le_of_ble_eq_true rfl) hQ
theorem te_g1 {g : Nat} (h : g ≤ 1) : nI g = nI 0 ∨ nI g = nI 1 := by
  have h9 : g = 0 ∨ g = 1 := by omega
  rcases h9 with rfl | rfl
  · exact Or.inl rfl
  · exact Or.inr rfl
theorem c_Te_isTooGreat (h : te_is M t r g) (hQ : Q (.inl (some (.int (nI g)))) M) : mm_Ct l sc Y_Te_isTooGreat M [.ref t] Q := by
  obtain ⟨f, a1, a2, a3, a4, a5⟩ := h
  refine mm_of k_Te_isTooGreat w_Te_isTooGreat rfl (Nat.le_of_ble_eq_true rfl) ?_
  refine mg_run 1 rfl ?_
  refine mg_get rfl rfl a1 rfl ?_
  exact mg_zret rfl rfl (te_g1 a5) (Nat.le_of_ble_eq_true rfl) (Nat.le_of_ble_eq_true rfl) hQ
theorem te_getD {r : List Nat} {i : Nat} (h : r.length ≤ i) : r.getD i 0 = 0 := by
  simp [List.getD, List.getElem?_eq_none h]
theorem c_Te_at (h : te_is M t r g) {i : Nat} (hi : i < 2 ^ 31) (hQ : Q (.inl (some (.int (nI (r.getD i 0))))) M) : mm_Ct l sc Y_Te_at M [.ref t, .int (nI i)] Q := by
  obtain ⟨f, a1, a2, a3, a4, a5⟩ := h
  refine mm_of k_Te_at w_Te_at rfl (Nat.le_of_ble_eq_true rfl) ?_
  refine mg_run 1 rfl ?_
  refine mg_zlt rfl hi ?_
  refine mg_run 2 rfl ?_
  refine mg_get rfl rfl a1 rfl ?_
  refine mg_ge rfl hi (by omega) (fun h => ?_) (fun h => ?_)
  · refine mg_run 1 rfl ?_
    refine mg_iret rfl rfl (Nat.le_of_ble_eq_true rfl) (Nat.le_of_ble_eq_true rfl) ?_
    rw [te_getD h] at hQ
    exact hQ
  · refine mg_run 1 rfl ?_
    refine mg_get rfl rfl a1 rfl ?_
    refine mg_run 1 rfl ?_
    refine mg_ildN rfl a2 (by decide) (by omega) ?_
    refine mg_run 1 rfl ?_
    refine mg_iret rfl rfl (Nat.le_of_ble_eq_true rfl) (Nat.le_of_ble_eq_true rfl) ?_
    rw [a3 i h]
    exact hQ
theorem c_Te_clear (h : te_is M t r g) (hQ : ∀ M', te_is M' t [] 0 → mm_on (te_P t) M M' → Q (.inl none) M') : mm_Ct l sc Y_Te_clear M [.ref t] Q := by
  obtain ⟨f, a1, a2, a3, a4, a5⟩ := h
  refine mm_of k_Te_clear w_Te_clear rfl (Nat.le_of_ble_eq_true rfl) ?_
  refine mg_run 2 rfl ?_
  refine mg_put rfl rfl a1 rfl rfl ?_
  have b1 := mm_at_set (.inr (6, [.ref (t + 1), .int (nI 0), .int (nI g)])) a1
  refine mg_run 2 rfl ?_
  refine mg_put rfl rfl b1 rfl rfl ?_
  have c1 := mm_at_set (.inr (6, [.ref (t + 1), .int (nI 0), .int (nI 0)])) b1
  refine mg_vret rfl rfl (Nat.le_of_ble_eq_true rfl) (Nat.le_of_ble_eq_true rfl) ?_
  refine hQ _ ⟨f, c1, mm_at_ne (by omega) (mm_at_ne (by omega) a2), fun i hi => absurd hi (Nat.not_lt_zero i), Nat.zero_le _, Nat.zero_le _⟩ ?_
  exact (mm_on.set M _ (Or.inl rfl)).tr (mm_on.set _ _ (Or.inl rfl))
theorem te_upd {f : Nat → Int32} {r : List Nat} {v : Nat} (h : ∀ i, i < r.length → f i = nI (r.getD i 0)) : ∀ i, i < (r ++ [v]).length → upd f r.length (nI v) i = nI ((r ++ [v]).getD i 0) := by
  intro i hi
  rw [List.length_append] at hi
  have hi' : i < r.length + 1 := hi
  by_cases hir : i = r.length
  · subst hir
    rw [pk_us]
    simp [List.getD]
  · rw [pk_un hir, h i (by omega)]
    simp [List.getD, List.getElem?_append_left (show i < r.length by omega)]
theorem c_Te_add (h : te_is M t r g) {v : Nat} (hQ : ∀ M', te_is M' t (te_add (r, g) v).1 (te_add (r, g) v).2 → mm_on (te_P t) M M' → Q (.inl none) M') : mm_Ct l sc Y_Te_add M [.ref t, .int (nI v)] Q := by
  obtain ⟨f, a1, a2, a3, a4, a5⟩ := h
  refine mm_of k_Te_add w_Te_add rfl (Nat.le_of_ble_eq_true rfl) ?_
  refine mg_run 1 rfl ?_
  refine mg_get rfl rfl a1 rfl ?_
  refine mg_run 1 rfl ?_
  refine mg_lt rfl (by omega) (by omega) (fun h => ?_) (fun h => ?_)
  · refine mg_run 1 rfl ?_
    refine mg_get rfl rfl a1 rfl ?_
    refine mg_run 1 rfl ?_
    refine mg_get rfl rfl a1 rfl ?_
    refine mg_run 1 rfl ?_
    refine mg_istN rfl a2 (by decide) h ?_
    have b2 := mm_at_set (.inl (0, 2000, .inl (upd f r.length (nI v)))) a2
    have b1 : (M.set (t + 1) (.inl (0, 2000, .inl (upd f r.length (nI v)))))[t]? = some (.inr (6, [.ref (t + 1), .int (nI r.length), .int (nI g)])) := mm_at_ne (by omega) a1
    refine mg_run 2 rfl ?_
    refine mg_get rfl rfl b1 rfl ?_
    refine mg_run 1 rfl ?_
    refine mg_addN rfl ?_
    refine mg_put rfl rfl b1 rfl rfl ?_
    have c1 := mm_at_set (.inr (6, [.ref (t + 1), .int (nI (r.length + 1)), .int (nI g)])) b1
    refine mg_vret rfl rfl (Nat.le_of_ble_eq_true rfl) (Nat.le_of_ble_eq_true rfl) ?_
    have e : te_add (r, g) v = (r ++ [v], g) := if_pos h
    rw [e] at hQ
    refine hQ _ ⟨upd f r.length (nI v), ?_, mm_at_ne (by omega) b2, te_upd a3, by simp; omega, a5⟩ ?_
    · rw [List.length_append]; exact c1
    · exact (mm_on.set M _ (Or.inr rfl)).tr (mm_on.set _ _ (Or.inl rfl))
  · refine mg_run 2 rfl ?_
    refine mg_put rfl rfl a1 rfl rfl ?_
    have c1 := mm_at_set (.inr (6, [.ref (t + 1), .int (nI r.length), .int (nI 1)])) a1
    refine mg_vret rfl rfl (Nat.le_of_ble_eq_true rfl) (Nat.le_of_ble_eq_true rfl) ?_
    have e : te_add (r, g) v = (r, 1) := if_neg (Nat.not_lt.mpr h)
    rw [e] at hQ
    exact hQ _ ⟨f, c1, mm_at_ne (by omega) a2, a3, a4, Nat.le_refl _⟩ (mm_on.set M _ (Or.inl rfl))
end
