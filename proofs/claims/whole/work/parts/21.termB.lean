/-! Terms: parts of one row into another. -/
section
variable {l : Launch} {sc : Nat × (Nat → Int32)} {Y : mm_Y} {k n : Nat} {M : mm_M} {L : mm_L} {S : List Value} {pc : Nat} {Q : mm_O → mm_M → Prop}
theorem mg_copyN {ix nx j a0 a1 n0 n1 sp dp z : Nat} {v : Int32} {f g : Nat → Int32} (hq : mm_at (mm_tab Y) pc = some (.invokestatic ix, nx, j, v)) (hu : mm_mu[j]? = some (mm_cn Y, ix, 7, arraycopyName, 5)) (hM0 : M[a0]? = some (.inl (0, n0, .inl f))) (hM1 : M[a1]? = some (.inl (0, n1, .inl g))) (h0 : n0 < 2 ^ 31) (h1 : n1 < 2 ^ 31) (h4 : sp + z ≤ n0) (h5 : dp + z ≤ n1)
    (hst : (Nat.ble 1 (mm_rm Y).frames && Nat.ble ((S.map fun v => v.category).sum + (nativeFrameWords "java/lang/System" "arraycopy" 5 + 11)) (mm_rm Y).locals) = true) (kk : mm_Go l sc Y k n (M.set a1 (.inl (0, n1, .inl (va_cpy f g sp dp z)))) L S nx Q) : mm_Go l sc Y k n M L (.int (nI z) :: .int (nI dp) :: .ref a1 :: .int (nI sp) :: .ref a0 :: S) pc Q := by
  have e1 : (nI sp).toNatClampNeg = sp := nI_clamp (by omega)
  have e2 : (nI dp).toNatClampNeg = dp := nI_clamp (by omega)
  have e3 : (nI z).toNatClampNeg = z := nI_clamp (by omega)
  refine mg_copy hq hu hM0 hM1 (nI_pos (by omega)) (nI_pos (by omega)) (nI_pos (by omega)) (by rw [e1, e3]; exact h4) (by rw [e2, e3]; exact h5) hst ?_
  rw [e1, e2, e3]
  exact kk
end
theorem te_cpy {f f2 : Nat → Int32} {r r2 : List Nat} {st en : Nat} (hf : ∀ i, i < r.length → f i = nI (r.getD i 0)) (hf2 : ∀ i, i < r2.length → f2 i = nI (r2.getD i 0)) (h1 : st ≤ en) (h2 : en ≤ r2.length) : ∀ i, i < (r ++ (r2.drop st).take (en - st)).length → va_cpy f2 f st r.length (en - st) i = nI ((r ++ (r2.drop st).take (en - st)).getD i 0) := by
  intro i hi
  have hl : ((r2.drop st).take (en - st)).length = en - st := by rw [List.length_take, List.length_drop]; omega
  rw [List.length_append, hl] at hi
  by_cases hir : i < r.length
  · rw [pk_cpy_out (Or.inl hir), hf i hir]
    simp only [List.getD, List.getElem?_append_left hir]
  · rw [pk_cpy_in (Nat.le_of_not_lt hir) hi, hf2 _ (by omega)]
    simp only [List.getD, List.getElem?_append_right (Nat.le_of_not_lt hir)]
    rw [List.getElem?_take_of_lt (by omega), List.getElem?_drop]
section
variable {l : Launch} {sc : Nat × (Nat → Int32)} {M : mm_M} {Q : mm_O → mm_M → Prop} {t g t2 g2 : Nat} {r r2 : List Nat}
/-- two Terms apart -/
def te_ap (t t2 : Nat) : Prop := ¬ te_P t t2 ∧ ¬ te_P t (t2 + 1)
theorem c_Te_addPart (h : te_is M t r g) (h2 : te_is M t2 r2 g2) (hap : te_ap t t2) {st en : Nat} (h3 : st ≤ en) (h4 : en ≤ r2.length) (hQ : ∀ M', te_is M' t (te_adds (r, g) ((r2.drop st).take (en - st))).1 (te_adds (r, g) ((r2.drop st).take (en - st))).2 → mm_on (te_P t) M M' → Q (.inl none) M') : mm_Ct l sc Y_Te_addPart M [.ref t, .ref t2, .int (nI st), .int (nI en)] Q := by
  obtain ⟨f, a1, a2, a3, a4, a5⟩ := h
  obtain ⟨f2, b1, b2, b3, b4, b5⟩ := h2
  have hap1 : ¬ t2 + 1 = t + 1 := fun h9 => hap.2 (Or.inr h9)
  have hap2 : ¬ t = t2 := fun h9 => hap.1 (Or.inl h9.symm)
  have hl : ((r2.drop st).take (en - st)).length = en - st := by rw [List.length_take, List.length_drop]; omega
  refine mm_of k_Te_addPart w_Te_addPart rfl (Nat.le_of_ble_eq_true rfl) ?_
  refine mg_run 2 rfl ?_
  refine mg_subN rfl h3 ?_
  refine mg_run 2 rfl ?_
  refine mg_zlt rfl (by omega) ?_
  refine mg_run 1 rfl ?_
  refine mg_zlt rfl (by omega) ?_
  refine mg_run 2 rfl ?_
  refine mg_get rfl rfl b1 rfl ?_
  refine mg_le rfl (by omega) (by omega) (fun h => ?_) (fun h => absurd h (by omega))
  refine mg_run 1 rfl ?_
  refine mg_get rfl rfl a1 rfl ?_
  refine mg_run 1 rfl ?_
  refine mg_addN rfl ?_
  refine mg_run 1 rfl ?_
  refine mg_le rfl (by omega) (by omega) (fun h => ?_) (fun h => ?_)
  · refine mg_run 1 rfl ?_
    refine mg_get rfl rfl b1 rfl ?_
    refine mg_run 2 rfl ?_
    refine mg_get rfl rfl a1 rfl ?_
    refine mg_run 1 rfl ?_
    refine mg_get rfl rfl a1 rfl ?_
    refine mg_run 1 rfl ?_
    refine mg_copyN rfl rfl b2 a2 (by decide) (by decide) (by omega) (by omega) rfl ?_
    have c2 := mm_at_set (.inl (0, 2000, .inl (va_cpy f2 f st r.length (en - st)))) a2
    have c1 : (M.set (t + 1) (.inl (0, 2000, .inl (va_cpy f2 f st r.length (en - st)))))[t]? = some (.inr (6, [.ref (t + 1), .int (nI r.length), .int (nI g)])) := mm_at_ne (by omega) a1
    refine mg_run 2 rfl ?_
    refine mg_get rfl rfl c1 rfl ?_
    refine mg_run 1 rfl ?_
    refine mg_addN rfl ?_
    refine mg_put rfl rfl c1 rfl rfl ?_
    have d1 := mm_at_set (.inr (6, [.ref (t + 1), .int (nI (r.length + (en - st))), .int (nI g)])) c1
    refine mg_vret rfl rfl (Nat.le_of_ble_eq_true rfl) (Nat.le_of_ble_eq_true rfl) ?_
    have e : te_adds (r, g) ((r2.drop st).take (en - st)) = (r ++ (r2.drop st).take (en - st), g) := if_pos (by rw [hl]; exact h)
    rw [e] at hQ
    refine hQ _ ⟨va_cpy f2 f st r.length (en - st), ?_, mm_at_ne (by omega) c2, te_cpy a3 b3 h3 h4, by rw [List.length_append, hl]; exact h, a5⟩ ?_
    · rw [List.length_append, hl]; exact d1
    · exact (mm_on.set M _ (Or.inr rfl)).tr (mm_on.set _ _ (Or.inl rfl))
  · refine mg_run 2 rfl ?_
    refine mg_put rfl rfl a1 rfl rfl ?_
    have c1 := mm_at_set (.inr (6, [.ref (t + 1), .int (nI r.length), .int (nI 1)])) a1
    refine mg_vret rfl rfl (Nat.le_of_ble_eq_true rfl) (Nat.le_of_ble_eq_true rfl) ?_
    have e : te_adds (r, g) ((r2.drop st).take (en - st)) = (r, 1) := if_neg (by rw [hl]; exact Nat.not_le.mpr h)
    rw [e] at hQ
    exact hQ _ ⟨f, c1, mm_at_ne (by omega) a2, a3, a4, Nat.le_refl _⟩ (mm_on.set M _ (Or.inl rfl))
theorem c_Te_addAll (h : te_is M t r g) (h2 : te_is M t2 r2 g2) (hap : te_ap t t2) (hQ : ∀ M', te_is M' t (te_adds (r, g) r2).1 (te_adds (r, g) r2).2 → mm_on (te_P t) M M' → Q (.inl none) M') : mm_Ct l sc Y_Te_addAll M [.ref t, .ref t2] Q := by
  obtain ⟨f2, b1, b2, b3, b4, b5⟩ := id h2
  obtain ⟨f, a1, a2, a3, a4, a5⟩ := id h
  refine mm_of k_Te_addAll w_Te_addAll rfl (Nat.le_of_ble_eq_true rfl) ?_
  refine mg_run 4 rfl ?_
  refine mg_get rfl rfl b1 rfl ?_
  refine mg_callV [.ref t2, .int (nI 0), .int (nI r2.length)] rfl rfl rfl a1 rfl rfl rfl rfl (c_Te_addPart h h2 hap (Nat.zero_le _) (Nat.le_refl _) (fun M' p1 p2 => ?_))
  refine mg_vret rfl rfl (Nat.le_of_ble_eq_true rfl) (Nat.le_of_ble_eq_true rfl) ?_
  rw [Nat.sub_zero, List.drop_zero, List.take_length] at p1
  exact hQ M' p1 p2
/-- one row becomes another's -/
theorem c_Te_become (h : te_is M t r g) (h2 : te_is M t2 r2 g2) (hap : te_ap t t2) (hQ : ∀ M', te_is M' t r2 0 → mm_on (te_P t) M M' → Q (.inl none) M') : mm_Ct l sc Y_Te_become M [.ref t, .ref t2] Q := by
  obtain ⟨f, a1, a2, a3, a4, a5⟩ := id h
  refine mm_of k_Te_become w_Te_become rfl (Nat.le_of_ble_eq_true rfl) ?_
  refine mg_run 2 rfl ?_
  refine mg_acmp rfl (fun h9 => absurd (show te_P t t2 from Or.inl h9) hap.1) (fun h9 => ?_)
  refine mg_run 1 rfl ?_
  refine mg_callV [] rfl rfl rfl a1 rfl rfl rfl rfl (c_Te_clear h (fun M1 p1 p2 => ?_))
  have h3 := h2.keep p2 hap.1 hap.2
  obtain ⟨f1, d1, d2, d3, d4, d5⟩ := id p1
  refine mg_run 2 rfl ?_
  refine mg_callV [.ref t2] rfl rfl rfl d1 rfl rfl rfl rfl (c_Te_addAll p1 h3 hap (fun M2 q1 q2 => ?_))
  refine mg_vret rfl rfl (Nat.le_of_ble_eq_true rfl) (Nat.le_of_ble_eq_true rfl) ?_
  have e : te_adds ([], 0) r2 = (r2, 0) := by
    unfold te_adds
    rw [if_pos (by simp; exact h2.len)]
    rfl
  rw [e] at q1
  exact hQ M2 q1 (p2.tr q2)
/-- .. or is it itself -/
theorem c_Te_becomeSelf (h : te_is M t r g) (hQ : Q (.inl none) M) : mm_Ct l sc Y_Te_become M [.ref t, .ref t] Q := by
  refine mm_of k_Te_become w_Te_become rfl (Nat.le_of_ble_eq_true rfl) ?_
  refine mg_run 2 rfl ?_
  refine mg_acmp rfl (fun h9 => ?_) (fun h9 => absurd rfl h9)
  exact mg_vret rfl rfl (Nat.le_of_ble_eq_true rfl) (Nat.le_of_ble_eq_true rfl) hQ
end
