/-! Constructors. Each leaves the list of cells as a function of the list before. -/
theorem mm_at_app {M : mm_M} {x : List va_E} {t : Nat} {e : va_E} (h : M[t]? = some e) : (M ++ x)[t]? = some e := by
  rw [List.getElem?_append_left (List.getElem?_eq_some_iff.mp h).1]; exact h
def mm_z (n : Nat) : va_E := .inl (0, n, .inl (fun _ => 0))
def te_new (M : mm_M) (t : Nat) : mm_M := (M ++ [mm_z 2000]).set t (.inr (6, [.ref M.length, .int 0, .int 0]))
def ta_new (M : mm_M) (t : Nat) : mm_M := (M ++ [mm_z 400]).set t (.inr (5, [.ref M.length, .int 0]))
def de_new (M : mm_M) (t : Nat) : mm_M := ((((M ++ [mm_z 2000]).set t (.inr (2, [.ref M.length, .null]))) ++ [mm_z 2002]).set t (.inr (2, [.ref M.length, .ref (M.length + 1)])))
def gra_new (M : mm_M) (t : Nat) : mm_M := ((((M ++ [mm_z 401]).set t (.inr (3, [.ref M.length, .null, .int 0, .int 0, .int 0]))) ++ [mm_z 20]).set t (.inr (3, [.ref M.length, .ref (M.length + 1), .int 0, .int 0, .int 0])))
def bu_new (M : mm_M) (t : Nat) : mm_M := ((((M ++ [mm_z 400]).set t (.inr (1, [.ref M.length, .null, .int 0, .int 0]))) ++ [mm_z 20]).set t (.inr (1, [.ref M.length, .ref (M.length + 1), .int 0, .int 0])))
section
variable {l : Launch} {sc : Nat × (Nat → Int32)} {M : mm_M} {Q : mm_O → mm_M → Prop} {t : Nat}
theorem c_Te_init (h : M[t]? = some (.inr (6, mm_df 6))) (hQ : Q (.inl none) (te_new M t)) : mm_Ct l sc Y_Te_init M [.ref t] Q := by
  refine mm_by k_Te_init w_Te_init rfl rfl ?_
  refine mg_run 1 rfl ?_
  refine mg_oinit rfl rfl rfl ?_
  refine mg_run 2 rfl ?_
  refine mg_newi rfl (by decide) rfl rfl ?_
  refine mg_put rfl rfl (mm_at_app h) rfl rfl ?_
  exact mg_vr rfl rfl rfl rfl hQ
theorem c_Ta_init (h : M[t]? = some (.inr (5, mm_df 5))) (hQ : Q (.inl none) (ta_new M t)) : mm_Ct l sc Y_Ta_init M [.ref t] Q := by
  refine mm_by k_Ta_init w_Ta_init rfl rfl ?_
  refine mg_run 1 rfl ?_
  refine mg_oinit rfl rfl rfl ?_
  refine mg_run 2 rfl ?_
  refine mg_newi rfl (by decide) rfl rfl ?_
  refine mg_put rfl rfl (mm_at_app h) rfl rfl ?_
  exact mg_vr rfl rfl rfl rfl hQ
theorem mm_len1 (M : mm_M) (e f : va_E) (t : Nat) : ((M ++ [e]).set t f).length = M.length + 1 := by simp
theorem c_De_init (h : M[t]? = some (.inr (2, mm_df 2))) (hQ : Q (.inl none) (de_new M t)) : mm_Ct l sc Y_De_init M [.ref t] Q := by
  refine mm_by k_De_init w_De_init rfl rfl ?_
  refine mg_run 1 rfl ?_
  refine mg_oinit rfl rfl rfl ?_
  refine mg_run 2 rfl ?_
  refine mg_newi rfl (by decide) rfl rfl ?_
  refine mg_put rfl rfl (mm_at_app h) rfl rfl ?_
  have h1 := mm_at_set (.inr (2, [.ref M.length, .null])) (mm_at_app (x := [mm_z 2000]) h)
  refine mg_run 2 rfl ?_
  refine mg_newi rfl (by decide) rfl rfl ?_
  refine mg_put rfl rfl (mm_at_app h1) rfl rfl ?_
  refine mg_vr rfl rfl rfl rfl ?_
  have e := mm_len1 M (mm_z 2000) (.inr (2, [.ref M.length, .null])) t
  unfold de_new at hQ
  rw [← e] at hQ
  exact hQ
theorem c_Gr_init (h : M[t]? = some (.inr (3, mm_df 3))) (hQ : Q (.inl none) (gra_new M t)) : mm_Ct l sc Y_Gr_init M [.ref t] Q := by
  refine mm_by k_Gr_init w_Gr_init rfl rfl ?_
  refine mg_run 1 rfl ?_
  refine mg_oinit rfl rfl rfl ?_
  refine mg_run 2 rfl ?_
  refine mg_newi rfl (by decide) rfl rfl ?_
  refine mg_put rfl rfl (mm_at_app h) rfl rfl ?_
  have h1 := mm_at_set (.inr (3, [.ref M.length, .null, .int 0, .int 0, .int 0])) (mm_at_app (x := [mm_z 401]) h)
  refine mg_run 2 rfl ?_
  refine mg_newi rfl (by decide) rfl rfl ?_
  refine mg_put rfl rfl (mm_at_app h1) rfl rfl ?_
  refine mg_vr rfl rfl rfl rfl ?_
  have e := mm_len1 M (mm_z 401) (.inr (3, [.ref M.length, .null, .int 0, .int 0, .int 0])) t
  unfold gra_new at hQ
  rw [← e] at hQ
  exact hQ
theorem c_Bu_init (h : M[t]? = some (.inr (1, mm_df 1))) (hQ : Q (.inl none) (bu_new M t)) : mm_Ct l sc Y_Bu_init M [.ref t] Q := by
  refine mm_by k_Bu_init w_Bu_init rfl rfl ?_
  refine mg_run 1 rfl ?_
  refine mg_oinit rfl rfl rfl ?_
  refine mg_run 2 rfl ?_
  refine mg_newi rfl (by decide) rfl rfl ?_
  refine mg_put rfl rfl (mm_at_app h) rfl rfl ?_
  have h1 := mm_at_set (.inr (1, [.ref M.length, .null, .int 0, .int 0])) (mm_at_app (x := [mm_z 400]) h)
  refine mg_run 2 rfl ?_
  refine mg_newi rfl (by decide) rfl rfl ?_
  refine mg_put rfl rfl (mm_at_app h1) rfl rfl ?_
  refine mg_vr rfl rfl rfl rfl ?_
  have e := mm_len1 M (mm_z 400) (.inr (1, [.ref M.length, .null, .int 0, .int 0])) t
  unfold bu_new at hQ
  rw [← e] at hQ
  exact hQ
end
/-! the bench, cell by cell: from here on all lists are closed terms -/
def lb_0 : mm_M := (([.inr (7, mm_df 7)] : mm_M) ++ ([.inl (2, 12, .inr (.inr (.inr (.inr (fun _ => none)))))] : mm_M)).set 0 (.inr (7, [.ref 1, .null, .null, .null, .null, .null, .null, .null, .int 0]))
/-- one Term more in the slots -/
def lb_s (M : mm_M) (i : Nat) (f : Nat → Option Nat) : mm_M := (te_new (M ++ [.inr (6, mm_df 6)]) M.length).set 1 (.inl (2, 12, .inr (.inr (.inr (.inr (va_up f i (some M.length)))))))
def lb_f : Nat → Nat → Option Nat
  | 0 => fun _ => none
  | i + 1 => va_up (lb_f i) i (some (2 + 2 * i))
def lb_i : Nat → mm_M
  | 0 => lb_0
  | i + 1 => lb_s (lb_i i) i (lb_f i)
theorem te_new_len (M : mm_M) (t : Nat) : (te_new M t).length = M.length + 1 := by simp [te_new]
theorem te_new_at {M : mm_M} {t i : Nat} (hi : ¬ t = i) {e : va_E} (h : M[i]? = some e) : (te_new M t)[i]? = some e := mm_at_ne hi (mm_at_app h)
theorem lb_i_ok : ∀ i, (lb_i i).length = 2 + 2 * i ∧ (lb_i i)[0]? = some (.inr (7, [.ref 1, .null, .null, .null, .null, .null, .null, .null, .int 0])) ∧ (lb_i i)[1]? = some (.inl (2, 12, .inr (.inr (.inr (.inr (lb_f i)))))) := by
  intro i
  induction i with
  | zero => exact ⟨rfl, rfl, rfl⟩
  | succ i ih =>
    obtain ⟨h1, h2, h3⟩ := ih
    have e0 : (te_new (lb_i i ++ [.inr (6, mm_df 6)]) (lb_i i).length)[0]? = some (.inr (7, [.ref 1, .null, .null, .null, .null, .null, .null, .null, .int 0])) := te_new_at (by omega) (mm_at_app h2)
    have e1 : (te_new (lb_i i ++ [.inr (6, mm_df 6)]) (lb_i i).length)[1]? = some (.inl (2, 12, .inr (.inr (.inr (.inr (lb_f i)))))) := te_new_at (by omega) (mm_at_app h3)
    refine ⟨?_, mm_at_ne (by decide) e0, ?_⟩
    · show ((te_new (lb_i i ++ [.inr (6, mm_df 6)]) (lb_i i).length).set 1 _).length = _
      rw [List.length_set, te_new_len, List.length_append, h1]
      rfl
    · show ((te_new (lb_i i ++ [.inr (6, mm_df 6)]) (lb_i i).length).set 1 _)[1]? = _
      rw [mm_at_set _ e1, h1]
      rfl
def re_new (M : mm_M) (t : Nat) : mm_M :=
  let M1 := (de_new (M ++ [.inr (2, mm_df 2)]) M.length).set t (.inr (4, [.ref M.length, .null, .null, .int 0]))
  let M2 := (te_new (M1 ++ [.inr (6, mm_df 6)]) M1.length).set t (.inr (4, [.ref M.length, .ref M1.length, .null, .int 0]))
  let M3 := (te_new (M2 ++ [.inr (6, mm_df 6)]) M2.length).set t (.inr (4, [.ref M.length, .ref M1.length, .ref M2.length, .int 0]))
  M3.set t (.inr (4, [.ref M.length, .ref M1.length, .ref M2.length, .int (nI 0)]))
def ab_new (M : mm_M) (t : Nat) : mm_M :=
  let M1 := (M ++ [mm_z 2001]).set t (.inr (0, [.ref M.length, .null, .null, .null]))
  let M2 := (M1 ++ [mm_z 2001]).set t (.inr (0, [.ref M.length, .ref M1.length, .null, .null]))
  let M3 := (te_new (M2 ++ [.inr (6, mm_df 6)]) M2.length).set t (.inr (0, [.ref M.length, .ref M1.length, .ref M2.length, .null]))
  (te_new (M3 ++ [.inr (6, mm_df 6)]) M3.length).set t (.inr (0, [.ref M.length, .ref M1.length, .ref M2.length, .ref M3.length]))
theorem mm_at_new (M : mm_M) (e : va_E) : (M ++ [e])[M.length]? = some e := by
  rw [List.getElem?_append_right (Nat.le_refl _), Nat.sub_self]; rfl
section
variable {l : Launch} {sc : Nat × (Nat → Int32)} {M : mm_M} {Q : mm_O → mm_M → Prop} {t : Nat}
theorem c_Re_init (h : M[t]? = some (.inr (4, mm_df 4))) (hQ : Q (.inl none) (re_new M t)) : mm_Ct l sc Y_Re_init M [.ref t] Q := by
  have hlt : t < M.length := (List.getElem?_eq_some_iff.mp h).1
  refine mm_by k_Re_init w_Re_init rfl rfl ?_
  refine mg_run 1 rfl ?_
  refine mg_oinit rfl rfl rfl ?_
  refine mg_run 1 rfl ?_
  refine mg_new rfl rfl rfl rfl ?_
  refine mg_run 1 rfl ?_
  refine mg_callI [] rfl rfl rfl rfl rfl rfl (c_De_init (mm_at_new M _) ?_)
  have h1 : (de_new (M ++ [.inr (2, mm_df 2)]) M.length)[t]? = some (.inr (4, mm_df 4)) := mm_at_ne (by omega) (mm_at_app (mm_at_ne (by omega) (mm_at_app (mm_at_app h))))
  refine mg_put rfl rfl h1 rfl rfl ?_
  have h2 := mm_at_set (.inr (4, [.ref M.length, .null, .null, .int 0])) h1
  generalize hM1 : (de_new (M ++ [.inr (2, mm_df 2)]) M.length).set t (.inr (4, [.ref M.length, .null, .null, .int 0])) = M1 at h2
  have hlt1 : t < M1.length := (List.getElem?_eq_some_iff.mp h2).1
  have g1 : (de_new (M ++ [.inr (2, mm_df 2)]) M.length).set t (.inr (4, (mm_df 4).set 0 (.ref M.length))) = M1 := hM1
  rw [g1]
  refine mg_run 1 rfl ?_
  refine mg_new rfl rfl rfl rfl ?_
  refine mg_run 1 rfl ?_
  refine mg_callI [] rfl rfl rfl rfl rfl rfl (c_Te_init (mm_at_new M1 _) ?_)
  have h3 : (te_new (M1 ++ [.inr (6, mm_df 6)]) M1.length)[t]? = some (.inr (4, [.ref M.length, .null, .null, .int 0])) := te_new_at (by omega) (mm_at_app h2)
  refine mg_put rfl rfl h3 rfl rfl ?_
  have h4 := mm_at_set (.inr (4, [.ref M.length, .ref M1.length, .null, .int 0])) h3
  generalize hM2 : (te_new (M1 ++ [.inr (6, mm_df 6)]) M1.length).set t (.inr (4, [.ref M.length, .ref M1.length, .null, .int 0])) = M2 at h4
  have hlt2 : t < M2.length := (List.getElem?_eq_some_iff.mp h4).1
  have g2 : (te_new (M1 ++ [.inr (6, mm_df 6)]) M1.length).set t (.inr (4, [.ref M.length, .null, .null, .int 0].set 1 (.ref M1.length))) = M2 := hM2
  rw [g2]
  refine mg_run 1 rfl ?_
  refine mg_new rfl rfl rfl rfl ?_
  refine mg_run 1 rfl ?_
  refine mg_callI [] rfl rfl rfl rfl rfl rfl (c_Te_init (mm_at_new M2 _) ?_)
  have h5 : (te_new (M2 ++ [.inr (6, mm_df 6)]) M2.length)[t]? = some (.inr (4, [.ref M.length, .ref M1.length, .null, .int 0])) := te_new_at (by omega) (mm_at_app h4)
  refine mg_put rfl rfl h5 rfl rfl ?_
  have h6 := mm_at_set (.inr (4, [.ref M.length, .ref M1.length, .ref M2.length, .int 0])) h5
  refine mg_run 2 rfl ?_
  refine mg_put rfl rfl h6 rfl rfl ?_
  refine mg_vr rfl rfl rfl rfl ?_
  subst hM1
  subst hM2
  exact hQ
theorem c_Ab_init (h : M[t]? = some (.inr (0, mm_df 0))) (hQ : Q (.inl none) (ab_new M t)) : mm_Ct l sc Y_Ab_init M [.ref t] Q := by
  have hlt : t < M.length := (List.getElem?_eq_some_iff.mp h).1
  refine mm_by k_Ab_init w_Ab_init rfl rfl ?_
  refine mg_run 1 rfl ?_
  refine mg_oinit rfl rfl rfl ?_
  refine mg_run 2 rfl ?_
  refine mg_newi rfl (by decide) rfl rfl ?_
  refine mg_put rfl rfl (mm_at_app h) rfl rfl ?_
  have h2 := mm_at_set (.inr (0, [.ref M.length, .null, .null, .null])) (mm_at_app (x := [mm_z 2001]) h)
  generalize hM1 : (M ++ [mm_z 2001]).set t (.inr (0, [.ref M.length, .null, .null, .null])) = M1 at h2
  have g1 : (M ++ [mm_z 2001]).set t (.inr (0, (mm_df 0).set 0 (.ref M.length))) = M1 := hM1
  have g1' : (M ++ ([.inl (0, 2001, .inl (fun _ => 0))] : mm_M)).set t (.inr (0, (mm_df 0).set 0 (.ref M.length))) = M1 := hM1
  rw [g1']
  refine mg_run 2 rfl ?_
  refine mg_newi rfl (by decide) rfl rfl ?_
  refine mg_put rfl rfl (mm_at_app h2) rfl rfl ?_
  have h4 := mm_at_set (.inr (0, [.ref M.length, .ref M1.length, .null, .null])) (mm_at_app (x := [mm_z 2001]) h2)
  generalize hM2 : (M1 ++ [mm_z 2001]).set t (.inr (0, [.ref M.length, .ref M1.length, .null, .null])) = M2 at h4
  have hlt2 : t < M2.length := (List.getElem?_eq_some_iff.mp h4).1
  have g2 : (M1 ++ ([.inl (0, 2001, .inl (fun _ => 0))] : mm_M)).set t (.inr (0, [.ref M.length, .null, .null, .null].set 1 (.ref M1.length))) = M2 := hM2
  rw [g2]
  refine mg_run 1 rfl ?_
  refine mg_new rfl rfl rfl rfl ?_
  refine mg_run 1 rfl ?_
  refine mg_callI [] rfl rfl rfl rfl rfl rfl (c_Te_init (mm_at_new M2 _) ?_)
  have h5 : (te_new (M2 ++ [.inr (6, mm_df 6)]) M2.length)[t]? = some (.inr (0, [.ref M.length, .ref M1.length, .null, .null])) := te_new_at (by omega) (mm_at_app h4)
  refine mg_put rfl rfl h5 rfl rfl ?_
  have h6 := mm_at_set (.inr (0, [.ref M.length, .ref M1.length, .ref M2.length, .null])) h5
  generalize hM3 : (te_new (M2 ++ [.inr (6, mm_df 6)]) M2.length).set t (.inr (0, [.ref M.length, .ref M1.length, .ref M2.length, .null])) = M3 at h6
  have hlt3 : t < M3.length := (List.getElem?_eq_some_iff.mp h6).1
  have g3 : (te_new (M2 ++ [.inr (6, mm_df 6)]) M2.length).set t (.inr (0, [.ref M.length, .ref M1.length, .null, .null].set 2 (.ref M2.length))) = M3 := hM3
  rw [g3]
  refine mg_run 1 rfl ?_
  refine mg_new rfl rfl rfl rfl ?_
  refine mg_run 1 rfl ?_
  refine mg_callI [] rfl rfl rfl rfl rfl rfl (c_Te_init (mm_at_new M3 _) ?_)
  have h7 : (te_new (M3 ++ [.inr (6, mm_df 6)]) M3.length)[t]? = some (.inr (0, [.ref M.length, .ref M1.length, .ref M2.length, .null])) := te_new_at (by omega) (mm_at_app h6)
  refine mg_put rfl rfl h7 rfl rfl ?_
  refine mg_vr rfl rfl rfl rfl ?_
  subst hM1
  subst hM2
  subst hM3
  exact hQ
end
/-- the bench behind its constructor -/
def lb_a : mm_M := lb_i 12
def lb_b : mm_M := (te_new (lb_a ++ [.inr (6, mm_df 6)]) 26).set 0 (.inr (7, [.ref 1, .ref 26, .null, .null, .null, .null, .null, .null, .int 0]))
def lb_c : mm_M := (ta_new (lb_b ++ [.inr (5, mm_df 5)]) 28).set 0 (.inr (7, [.ref 1, .ref 26, .ref 28, .null, .null, .null, .null, .null, .int 0]))
def lb_d : mm_M := (gra_new (lb_c ++ [.inr (3, mm_df 3)]) 30).set 0 (.inr (7, [.ref 1, .ref 26, .ref 28, .ref 30, .null, .null, .null, .null, .int 0]))
def lb_e : mm_M := (bu_new (lb_d ++ [.inr (1, mm_df 1)]) 33).set 0 (.inr (7, [.ref 1, .ref 26, .ref 28, .ref 30, .ref 33, .null, .null, .null, .int 0]))
def lb_g : mm_M := (de_new (lb_e ++ [.inr (2, mm_df 2)]) 36).set 0 (.inr (7, [.ref 1, .ref 26, .ref 28, .ref 30, .ref 33, .ref 36, .null, .null, .int 0]))
def lb_h : mm_M := (re_new (lb_g ++ [.inr (4, mm_df 4)]) 39).set 0 (.inr (7, [.ref 1, .ref 26, .ref 28, .ref 30, .ref 33, .ref 36, .ref 39, .null, .int 0]))
def lb_k : mm_M := (ab_new (lb_h ++ [.inr (0, mm_df 0)]) 47).set 0 (.inr (7, [.ref 1, .ref 26, .ref 28, .ref 30, .ref 33, .ref 36, .ref 39, .ref 47, .int 0]))
def lb_M : mm_M := lb_k.set 0 (.inr (7, [.ref 1, .ref 26, .ref 28, .ref 30, .ref 33, .ref 36, .ref 39, .ref 47, .int (-1)]))
theorem lb_len : lb_a.length = 26 ∧ lb_b.length = 28 ∧ lb_c.length = 30 ∧ lb_d.length = 33 ∧ lb_e.length = 36 ∧ lb_g.length = 39 ∧ lb_h.length = 47 ∧ lb_k.length = 54 ∧ lb_M.length = 54 := ⟨rfl, rfl, rfl, rfl, rfl, rfl, rfl, rfl, rfl⟩
theorem lb_at0 : lb_a[0]? = some (.inr (7, [.ref 1, .null, .null, .null, .null, .null, .null, .null, .int 0])) ∧ lb_M[0]? = some (.inr (7, [.ref 1, .ref 26, .ref 28, .ref 30, .ref 33, .ref 36, .ref 39, .ref 47, .int (-1)])) ∧ lb_M[1]? = some (.inl (2, 12, .inr (.inr (.inr (.inr (lb_f 12)))))) := ⟨rfl, rfl, rfl⟩
