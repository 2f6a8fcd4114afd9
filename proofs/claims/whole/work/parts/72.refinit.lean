/-! The reference's making; the law's helpers. -/
theorem mm_Ct.mono {l : Launch} {sc : Nat × (Nat → Int32)} {Y : mm_Y} {M : mm_M} {vs : List Value} {R Q : mm_O → mm_M → Prop} (h : mm_Ct l sc Y M vs R) (hi : ∀ o M', R o M' → Q o M') : mm_Ct l sc Y M vs Q := by
  refine ⟨h.1, h.2.1, fun D A sa al ws us hl => ?_⟩
  intro p e h1 h2 h3 s m args below h4 h5 h6 h7
  obtain ⟨i, o, a1, a2, a3, a4⟩ := h.2.2 D A sa al ws us hl p e h1 h2 h3 s m args below h4 h5 h6 h7
  refine ⟨i, o, a1, a2, a3, ?_⟩
  rcases a4 with ⟨⟨v, w, M1, al1, ws1, b1, b2, b3, b4⟩, b5⟩ | ⟨q, c1, E, ce, L9, ⟨j, M1, al1, ws1, d1, d2, d3⟩, c2⟩
  · exact Or.inl ⟨⟨v, w, M1, al1, ws1, b1, b2, hi _ _ b3, b4⟩, b5⟩
  · exact Or.inr ⟨q, c1, E, ce, L9, ⟨j, M1, al1, ws1, d1, hi _ _ d2, d3⟩, c2⟩
/-- the reference half made: n of its arrays -/
def mi_is (M0 M : mm_M) (n : Nat) (fs : List Value) : Prop := M.length = 55 + n ∧ M[54]? = some (.inr (8, fs)) ∧ (∀ j, j < n → M[55 + j]? = some (mm_z (mo_n j))) ∧ ∀ i, i < 54 → M[i]? = M0[i]?
theorem mi_st {M0 M : mm_M} {n : Nat} {fs fs' : List Value} (h : mi_is M0 M n fs) : mi_is M0 ((M ++ [mm_z (mo_n n)]).set 54 (.inr (8, fs'))) (n + 1) fs' := by
  obtain ⟨h1, h2, h3, h4⟩ := h
  have h5 : (M ++ [mm_z (mo_n n)])[54]? = some (.inr (8, fs)) := mm_at_app h2
  refine ⟨?_, mm_at_set _ h5, fun j hj => mm_at_ne (by omega) ?_, fun i hi => mm_at_ne (by omega) ?_⟩
  · rw [List.length_set, List.length_append, h1]
    rfl
  · by_cases e : j = n
    · subst e
      rw [← h1]
      exact mm_at_new M _
    · exact mm_at_app (h3 j (by omega))
  · rw [List.getElem?_append_left (by omega)]
    exact h4 i hi
theorem mi_s0 {M0 M : mm_M} {n : Nat} {fs fs' : List Value} (h : mi_is M0 M n fs) : mi_is M0 (M.set 54 (.inr (8, fs'))) n fs' := by
  obtain ⟨h1, h2, h3, h4⟩ := h
  exact ⟨by rw [List.length_set]; exact h1, mm_at_set _ h2, fun j hj => mm_at_ne (by omega) (h3 j hj), fun i hi => mm_at_ne (by omega) (h4 i hi)⟩
theorem mi_go {l : Launch} {sc : Nat × (Nat → Int32)} {Y : mm_Y} {k m : Nat} {M0 M : mm_M} {L : mm_L} {S : List Value} {pc : Nat} {Q : mm_O → mm_M → Prop} {n : Nat} {fs fs' : List Value} (h : mi_is M0 M n fs) (kk : ∀ M', mi_is M0 M' (n + 1) fs' → mm_Go l sc Y k m M' L S pc Q) : mm_Go l sc Y k m ((M ++ [mm_z (mo_n n)]).set 54 (.inr (8, fs'))) L S pc Q := kk _ (mi_st h)
theorem mi_g0 {l : Launch} {sc : Nat × (Nat → Int32)} {Y : mm_Y} {k m : Nat} {M0 M : mm_M} {L : mm_L} {S : List Value} {pc : Nat} {Q : mm_O → mm_M → Prop} {n : Nat} {fs fs' : List Value} (h : mi_is M0 M n fs) (kk : ∀ M', mi_is M0 M' n fs' → mm_Go l sc Y k m M' L S pc Q) : mm_Go l sc Y k m (M.set 54 (.inr (8, fs'))) L S pc Q := kk _ (mi_s0 h)
def mi_x : Nat → Int32 := fun j => if j = 3 then -1 else 0
section
variable {l : Launch} {sc : Nat × (Nat → Int32)} {M0 M : mm_M} {Q : mm_O → mm_M → Prop}
theorem c_Mo_init (h : mi_is M0 M 0 (mm_df 8)) (hQ : ∀ M', mi_is M0 M' 11 (mo_f mi_x) → Q (.inl none) M') : mm_Ct l sc Y_Mo_init M [.ref 54] Q := by
  refine mm_by k_Mo_init w_Mo_init rfl rfl ?_
  refine mg_run 1 rfl ?_
  refine mg_oinit rfl rfl rfl ?_
  refine mg_run 2 rfl ?_
  refine mg_newi rfl (by decide) rfl rfl ?_
  rw [h.1]
  refine mg_put rfl rfl (mm_at_app h.2.1) rfl rfl ?_
  refine mi_go (n := 0) h (fun M1 h1 => ?_)
  refine mg_run 2 rfl ?_
  refine mg_put rfl rfl h1.2.1 rfl rfl ?_
  refine mi_g0 (n := 1) h1 (fun Ma ha => ?_)
  refine mg_run 2 rfl ?_
  refine mg_newi rfl (by decide) rfl rfl ?_
  rw [ha.1]
  refine mg_put rfl rfl (mm_at_app ha.2.1) rfl rfl ?_
  refine mi_go (n := 1) ha (fun M2 h2 => ?_)
  refine mg_run 2 rfl ?_
  refine mg_newi rfl (by decide) rfl rfl ?_
  rw [h2.1]
  refine mg_put rfl rfl (mm_at_app h2.2.1) rfl rfl ?_
  refine mi_go (n := 2) h2 (fun M3 h3 => ?_)
  refine mg_run 2 rfl ?_
  refine mg_newi rfl (by decide) rfl rfl ?_
  rw [h3.1]
  refine mg_put rfl rfl (mm_at_app h3.2.1) rfl rfl ?_
  refine mi_go (n := 3) h3 (fun M4 h4 => ?_)
  refine mg_run 2 rfl ?_
  refine mg_newi rfl (by decide) rfl rfl ?_
  rw [h4.1]
  refine mg_put rfl rfl (mm_at_app h4.2.1) rfl rfl ?_
  refine mi_go (n := 4) h4 (fun M5 h5 => ?_)
  refine mg_run 2 rfl ?_
  refine mg_newi rfl (by decide) rfl rfl ?_
  rw [h5.1]
  refine mg_put rfl rfl (mm_at_app h5.2.1) rfl rfl ?_
  refine mi_go (n := 5) h5 (fun M6 h6 => ?_)
  refine mg_run 2 rfl ?_
  refine mg_newi rfl (by decide) rfl rfl ?_
  rw [h6.1]
  refine mg_put rfl rfl (mm_at_app h6.2.1) rfl rfl ?_
  refine mi_go (n := 6) h6 (fun M7 h7 => ?_)
  refine mg_run 2 rfl ?_
  refine mg_newi rfl (by decide) rfl rfl ?_
  rw [h7.1]
  refine mg_put rfl rfl (mm_at_app h7.2.1) rfl rfl ?_
  refine mi_go (n := 7) h7 (fun M8 h8 => ?_)
  refine mg_run 2 rfl ?_
  refine mg_newi rfl (by decide) rfl rfl ?_
  rw [h8.1]
  refine mg_put rfl rfl (mm_at_app h8.2.1) rfl rfl ?_
  refine mi_go (n := 8) h8 (fun M9 h9 => ?_)
  refine mg_run 2 rfl ?_
  refine mg_newi rfl (by decide) rfl rfl ?_
  rw [h9.1]
  refine mg_put rfl rfl (mm_at_app h9.2.1) rfl rfl ?_
  refine mi_go (n := 9) h9 (fun M10 h10 => ?_)
  refine mg_run 2 rfl ?_
  refine mg_newi rfl (by decide) rfl rfl ?_
  rw [h10.1]
  refine mg_put rfl rfl (mm_at_app h10.2.1) rfl rfl ?_
  refine mi_go (n := 10) h10 (fun M11 h11 => ?_)
  exact mg_vr rfl rfl rfl rfl (hQ M11 h11)
end
