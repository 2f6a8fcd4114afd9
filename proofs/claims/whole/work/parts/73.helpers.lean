/-! The law's helpers, by what the class's methods come to. -/
theorem vp_00 : vp_in (nI 0) 1 := by
  unfold vp_in
  decide
def ou (f : Nat → Int64) : va_E := .inl (1, 1, .inr (.inl f))
section
variable {l : Launch} {sc : Nat × (Nat → Int32)} {M : mm_M} {Q R : mm_O → mm_M → Prop} {fs : List Value}
theorem h_La_feed {w : Int64} {z : Int32} (h0 : M[0]? = some (.inr (7, fs))) (hc : mm_Ct l sc Y_LB_feed M [.ref 0, .long w, .int z] R) (hR : ∀ oc M', R oc M' → (∃ v f, oc = .inl (some (.int v)) ∧ M'[66]? = some (ou f) ∧ Q (.inl (some (.int (nI 0)))) (M'.set 66 (ou (vp_updL f 0 v.toInt64)))) ∨ (oc = .inr 0 ∧ Q (.inl (some (.int (nI 1)))) M') ∨ (oc = .inr 1 ∧ Q (.inl (some (.int (nI 2)))) M')) : mm_Ct l sc Y_La_feed M [.ref 0, .long w, .int z, .ref 66] Q := by
  refine mm_ofH k_La_feed w_La_feed rfl (Nat.le_of_ble_eq_true rfl) ?_
  refine mg_run 5 rfl ?_
  refine mg_callVH [.long w, .int z] rfl rfl rfl h0 rfl rfl rfl (hc.mono (fun oc M' h => ?_))
  rcases hR oc M' h with ⟨v, f, rfl, h66, hq⟩ | ⟨rfl, hq⟩ | ⟨rfl, hq⟩
  · refine mg_run 1 rfl ?_
    refine mg_last rfl h66 vp_00 ?_
    refine mg_run 2 rfl ?_
    exact mg_ir rfl rfl rfl rfl hq
  · refine ⟨14, mm_cat0 rfl rfl rfl, ?_⟩
    refine mg_run 2 rfl ?_
    exact mg_ir rfl rfl rfl rfl hq
  · refine ⟨18, mm_catJ rfl rfl rfl (by decide) mm_lk1 mm_nc1 mm_ca1, ?_⟩
    refine mg_run 2 rfl ?_
    exact mg_ir rfl rfl rfl rfl hq
theorem h_La_read {z : Int32} (h0 : M[0]? = some (.inr (7, fs))) (hc : mm_Ct l sc Y_LB_read M [.ref 0, .int z] R) (hR : ∀ oc M', R oc M' → (∃ v f, oc = .inl (some (.int v)) ∧ M'[66]? = some (ou f) ∧ Q (.inl (some (.int (nI 0)))) (M'.set 66 (ou (vp_updL f 0 v.toInt64)))) ∨ (oc = .inr 0 ∧ Q (.inl (some (.int (nI 1)))) M')) : mm_Ct l sc Y_La_read M [.ref 0, .int z, .ref 66] Q := by
  refine mm_ofH k_La_read w_La_read rfl (Nat.le_of_ble_eq_true rfl) ?_
  refine mg_run 4 rfl ?_
  refine mg_callVH [.int z] rfl rfl rfl h0 rfl rfl rfl (hc.mono (fun oc M' h => ?_))
  rcases hR oc M' h with ⟨v, f, rfl, h66, hq⟩ | ⟨rfl, hq⟩
  · refine mg_run 1 rfl ?_
    refine mg_last rfl h66 vp_00 ?_
    refine mg_run 2 rfl ?_
    exact mg_ir rfl rfl rfl rfl hq
  · refine ⟨12, mm_cat0 rfl rfl rfl, ?_⟩
    refine mg_run 2 rfl ?_
    exact mg_ir rfl rfl rfl rfl hq
theorem h_La_size {z : Int32} (h0 : M[0]? = some (.inr (7, fs))) (hc : mm_Ct l sc Y_LB_size M [.ref 0, .int z] R) (hR : ∀ oc M', R oc M' → (∃ v f, oc = .inl (some (.int v)) ∧ M'[66]? = some (ou f) ∧ Q (.inl (some (.int (nI 0)))) (M'.set 66 (ou (vp_updL f 0 v.toInt64)))) ∨ (oc = .inr 0 ∧ Q (.inl (some (.int (nI 1)))) M')) : mm_Ct l sc Y_La_size M [.ref 0, .int z, .ref 66] Q := by
  refine mm_ofH k_La_size w_La_size rfl (Nat.le_of_ble_eq_true rfl) ?_
  refine mg_run 4 rfl ?_
  refine mg_callVH [.int z] rfl rfl rfl h0 rfl rfl rfl (hc.mono (fun oc M' h => ?_))
  rcases hR oc M' h with ⟨v, f, rfl, h66, hq⟩ | ⟨rfl, hq⟩
  · refine mg_run 1 rfl ?_
    refine mg_last rfl h66 vp_00 ?_
    refine mg_run 2 rfl ?_
    exact mg_ir rfl rfl rfl rfl hq
  · refine ⟨12, mm_cat0 rfl rfl rfl, ?_⟩
    refine mg_run 2 rfl ?_
    exact mg_ir rfl rfl rfl rfl hq
theorem h_La_print {z y : Int32} (h0 : M[0]? = some (.inr (7, fs))) (hc : mm_Ct l sc Y_LB_print M [.ref 0, .int z, .int y] R) (hR : ∀ oc M', R oc M' → (∃ v f, oc = .inl (some (.int v)) ∧ M'[66]? = some (ou f) ∧ Q (.inl (some (.int (nI 0)))) (M'.set 66 (ou (vp_updL f 0 v.toInt64)))) ∨ (oc = .inr 0 ∧ Q (.inl (some (.int (nI 1)))) M') ∨ (oc = .inr 2 ∧ Q (.inl (some (.int (nI 2)))) M')) : mm_Ct l sc Y_La_print M [.ref 0, .int z, .int y, .ref 66] Q := by
  refine mm_ofH k_La_print w_La_print rfl (Nat.le_of_ble_eq_true rfl) ?_
  refine mg_run 5 rfl ?_
  refine mg_callVH [.int z, .int y] rfl rfl rfl h0 rfl rfl rfl (hc.mono (fun oc M' h => ?_))
  rcases hR oc M' h with ⟨v, f, rfl, h66, hq⟩ | ⟨rfl, hq⟩ | ⟨rfl, hq⟩
  · refine mg_run 1 rfl ?_
    refine mg_last rfl h66 vp_00 ?_
    refine mg_run 2 rfl ?_
    exact mg_ir rfl rfl rfl rfl hq
  · refine ⟨13, mm_cat0 rfl rfl rfl, ?_⟩
    refine mg_run 2 rfl ?_
    exact mg_ir rfl rfl rfl rfl hq
  · refine ⟨17, mm_catJ rfl rfl rfl (by decide) mm_lk2 mm_nc2 mm_ca2, ?_⟩
    refine mg_run 2 rfl ?_
    exact mg_ir rfl rfl rfl rfl hq
theorem h_La_copy {z y : Int32} (h0 : M[0]? = some (.inr (7, fs))) (hc : mm_Ct l sc Y_LB_copy M [.ref 0, .int z, .int y] R) (hR : ∀ oc M', R oc M' → (oc = .inl none ∧ Q (.inl (some (.int (nI 0)))) M') ∨ (oc = .inr 0 ∧ Q (.inl (some (.int (nI 1)))) M')) : mm_Ct l sc Y_La_copy M [.ref 0, .int z, .int y] Q := by
  refine mm_ofH k_La_copy w_La_copy rfl (Nat.le_of_ble_eq_true rfl) ?_
  refine mg_run 3 rfl ?_
  refine mg_callVH [.int z, .int y] rfl rfl rfl h0 rfl rfl rfl (hc.mono (fun oc M' h => ?_))
  rcases hR oc M' h with ⟨rfl, hq⟩ | ⟨rfl, hq⟩
  · refine mg_run 2 rfl ?_
    exact mg_ir rfl rfl rfl rfl hq
  · refine ⟨9, mm_cat0 rfl rfl rfl, ?_⟩
    refine mg_run 2 rfl ?_
    exact mg_ir rfl rfl rfl rfl hq
theorem h_La_apply {z y w : Int32} (h0 : M[0]? = some (.inr (7, fs))) (hc : mm_Ct l sc Y_LB_apply M [.ref 0, .int z, .int y, .int w] R) (hR : ∀ oc M', R oc M' → (∃ v f, oc = .inl (some (.int v)) ∧ M'[66]? = some (ou f) ∧ Q (.inl (some (.int (nI 0)))) (M'.set 66 (ou (vp_updL f 0 v.toInt64)))) ∨ (oc = .inr 0 ∧ Q (.inl (some (.int (nI 1)))) M') ∨ (oc = .inr 1 ∧ Q (.inl (some (.int (nI 2)))) M')) : mm_Ct l sc Y_La_apply M [.ref 0, .int z, .int y, .int w, .ref 66] Q := by
  refine mm_ofH k_La_apply w_La_apply rfl (Nat.le_of_ble_eq_true rfl) ?_
  refine mg_run 6 rfl ?_
  refine mg_callVH [.int z, .int y, .int w] rfl rfl rfl h0 rfl rfl rfl (hc.mono (fun oc M' h => ?_))
  rcases hR oc M' h with ⟨v, f, rfl, h66, hq⟩ | ⟨rfl, hq⟩ | ⟨rfl, hq⟩
  · refine mg_run 1 rfl ?_
    refine mg_last rfl h66 vp_00 ?_
    refine mg_run 2 rfl ?_
    exact mg_ir rfl rfl rfl rfl hq
  · refine ⟨15, mm_cat0 rfl rfl rfl, ?_⟩
    refine mg_run 2 rfl ?_
    exact mg_ir rfl rfl rfl rfl hq
  · refine ⟨19, mm_catJ rfl rfl rfl (by decide) mm_lk1 mm_nc1 mm_ca1, ?_⟩
    refine mg_run 2 rfl ?_
    exact mg_ir rfl rfl rfl rfl hq
theorem h_La_bind {z y : Int32} (h0 : M[0]? = some (.inr (7, fs))) (hc : mm_Ct l sc Y_LB_bind M [.ref 0, .int z, .int y] R) (hR : ∀ oc M', R oc M' → (∃ v f, oc = .inl (some (.int v)) ∧ M'[66]? = some (ou f) ∧ Q (.inl (some (.int (nI 0)))) (M'.set 66 (ou (vp_updL f 0 v.toInt64)))) ∨ (oc = .inr 0 ∧ Q (.inl (some (.int (nI 1)))) M') ∨ (oc = .inr 1 ∧ Q (.inl (some (.int (nI 2)))) M')) : mm_Ct l sc Y_La_bind M [.ref 0, .int z, .int y, .ref 66] Q := by
  refine mm_ofH k_La_bind w_La_bind rfl (Nat.le_of_ble_eq_true rfl) ?_
  refine mg_run 5 rfl ?_
  refine mg_callVH [.int z, .int y] rfl rfl rfl h0 rfl rfl rfl (hc.mono (fun oc M' h => ?_))
  rcases hR oc M' h with ⟨v, f, rfl, h66, hq⟩ | ⟨rfl, hq⟩ | ⟨rfl, hq⟩
  · refine mg_run 1 rfl ?_
    refine mg_last rfl h66 vp_00 ?_
    refine mg_run 2 rfl ?_
    exact mg_ir rfl rfl rfl rfl hq
  · refine ⟨13, mm_cat0 rfl rfl rfl, ?_⟩
    refine mg_run 2 rfl ?_
    exact mg_ir rfl rfl rfl rfl hq
  · refine ⟨17, mm_catJ rfl rfl rfl (by decide) mm_lk1 mm_nc1 mm_ca1, ?_⟩
    refine mg_run 2 rfl ?_
    exact mg_ir rfl rfl rfl rfl hq
theorem h_La_redexes {z : Int32} (h0 : M[0]? = some (.inr (7, fs))) (hc : mm_Ct l sc Y_LB_redexes M [.ref 0, .int z] R) (hR : ∀ oc M', R oc M' → (∃ v f, oc = .inl (some (.int v)) ∧ M'[66]? = some (ou f) ∧ Q (.inl (some (.int (nI 0)))) (M'.set 66 (ou (vp_updL f 0 v.toInt64)))) ∨ (oc = .inr 0 ∧ Q (.inl (some (.int (nI 1)))) M') ∨ (oc = .inr 1 ∧ Q (.inl (some (.int (nI 2)))) M')) : mm_Ct l sc Y_La_redexes M [.ref 0, .int z, .ref 66] Q := by
  refine mm_ofH k_La_redexes w_La_redexes rfl (Nat.le_of_ble_eq_true rfl) ?_
  refine mg_run 4 rfl ?_
  refine mg_callVH [.int z] rfl rfl rfl h0 rfl rfl rfl (hc.mono (fun oc M' h => ?_))
  rcases hR oc M' h with ⟨v, f, rfl, h66, hq⟩ | ⟨rfl, hq⟩ | ⟨rfl, hq⟩
  · refine mg_run 1 rfl ?_
    refine mg_last rfl h66 vp_00 ?_
    refine mg_run 2 rfl ?_
    exact mg_ir rfl rfl rfl rfl hq
  · refine ⟨12, mm_cat0 rfl rfl rfl, ?_⟩
    refine mg_run 2 rfl ?_
    exact mg_ir rfl rfl rfl rfl hq
  · refine ⟨15, mm_catJ rfl rfl rfl (by decide) mm_lk1 mm_nc1 mm_ca1, ?_⟩
    refine mg_run 2 rfl ?_
    exact mg_ir rfl rfl rfl rfl hq
theorem h_La_reduce {z y : Int32} (h0 : M[0]? = some (.inr (7, fs))) (hc : mm_Ct l sc Y_LB_reduce M [.ref 0, .int z, .int y] R) (hR : ∀ oc M', R oc M' → (∃ v f, oc = .inl (some (.int v)) ∧ M'[66]? = some (ou f) ∧ Q (.inl (some (.int (nI 0)))) (M'.set 66 (ou (vp_updL f 0 v.toInt64)))) ∨ (oc = .inr 0 ∧ Q (.inl (some (.int (nI 1)))) M') ∨ (oc = .inr 1 ∧ Q (.inl (some (.int (nI 2)))) M')) : mm_Ct l sc Y_La_reduce M [.ref 0, .int z, .int y, .ref 66] Q := by
  refine mm_ofH k_La_reduce w_La_reduce rfl (Nat.le_of_ble_eq_true rfl) ?_
  refine mg_run 5 rfl ?_
  refine mg_callVH [.int z, .int y] rfl rfl rfl h0 rfl rfl rfl (hc.mono (fun oc M' h => ?_))
  rcases hR oc M' h with ⟨v, f, rfl, h66, hq⟩ | ⟨rfl, hq⟩ | ⟨rfl, hq⟩
  · refine mg_run 1 rfl ?_
    refine mg_last rfl h66 vp_00 ?_
    refine mg_run 2 rfl ?_
    exact mg_ir rfl rfl rfl rfl hq
  · refine ⟨13, mm_cat0 rfl rfl rfl, ?_⟩
    refine mg_run 2 rfl ?_
    exact mg_ir rfl rfl rfl rfl hq
  · refine ⟨17, mm_catJ rfl rfl rfl (by decide) mm_lk1 mm_nc1 mm_ca1, ?_⟩
    refine mg_run 2 rfl ?_
    exact mg_ir rfl rfl rfl rfl hq
theorem h_La_abstracted {z : Int32} (h0 : M[0]? = some (.inr (7, fs))) (hc : mm_Ct l sc Y_LB_abstracted M [.ref 0, .int z] R) (hR : ∀ oc M', R oc M' → (∃ v f, oc = .inl (some (.int v)) ∧ M'[66]? = some (ou f) ∧ Q (.inl (some (.int (nI 0)))) (M'.set 66 (ou (vp_updL f 0 v.toInt64)))) ∨ (oc = .inr 0 ∧ Q (.inl (some (.int (nI 1)))) M') ∨ (oc = .inr 1 ∧ Q (.inl (some (.int (nI 2)))) M')) : mm_Ct l sc Y_La_abstracted M [.ref 0, .int z, .ref 66] Q := by
  refine mm_ofH k_La_abstracted w_La_abstracted rfl (Nat.le_of_ble_eq_true rfl) ?_
  refine mg_run 4 rfl ?_
  refine mg_callVH [.int z] rfl rfl rfl h0 rfl rfl rfl (hc.mono (fun oc M' h => ?_))
  rcases hR oc M' h with ⟨v, f, rfl, h66, hq⟩ | ⟨rfl, hq⟩ | ⟨rfl, hq⟩
  · refine mg_run 1 rfl ?_
    refine mg_last rfl h66 vp_00 ?_
    refine mg_run 2 rfl ?_
    exact mg_ir rfl rfl rfl rfl hq
  · refine ⟨12, mm_cat0 rfl rfl rfl, ?_⟩
    refine mg_run 2 rfl ?_
    exact mg_ir rfl rfl rfl rfl hq
  · refine ⟨15, mm_catJ rfl rfl rfl (by decide) mm_lk1 mm_nc1 mm_ca1, ?_⟩
    refine mg_run 2 rfl ?_
    exact mg_ir rfl rfl rfl rfl hq
theorem h_La_numeral {z y : Int32} (h0 : M[0]? = some (.inr (7, fs))) (hc : mm_Ct l sc Y_LB_numeral M [.ref 0, .int z, .int y] R) (hR : ∀ oc M', R oc M' → (∃ v f, oc = .inl (some (.int v)) ∧ M'[66]? = some (ou f) ∧ Q (.inl (some (.int (nI 0)))) (M'.set 66 (ou (vp_updL f 0 v.toInt64)))) ∨ (oc = .inr 0 ∧ Q (.inl (some (.int (nI 1)))) M') ∨ (oc = .inr 1 ∧ Q (.inl (some (.int (nI 2)))) M')) : mm_Ct l sc Y_La_numeral M [.ref 0, .int z, .int y, .ref 66] Q := by
  refine mm_ofH k_La_numeral w_La_numeral rfl (Nat.le_of_ble_eq_true rfl) ?_
  refine mg_run 5 rfl ?_
  refine mg_callVH [.int z, .int y] rfl rfl rfl h0 rfl rfl rfl (hc.mono (fun oc M' h => ?_))
  rcases hR oc M' h with ⟨v, f, rfl, h66, hq⟩ | ⟨rfl, hq⟩ | ⟨rfl, hq⟩
  · refine mg_run 1 rfl ?_
    refine mg_last rfl h66 vp_00 ?_
    refine mg_run 2 rfl ?_
    exact mg_ir rfl rfl rfl rfl hq
  · refine ⟨13, mm_cat0 rfl rfl rfl, ?_⟩
    refine mg_run 2 rfl ?_
    exact mg_ir rfl rfl rfl rfl hq
  · refine ⟨17, mm_catJ rfl rfl rfl (by decide) mm_lk1 mm_nc1 mm_ca1, ?_⟩
    refine mg_run 2 rfl ?_
    exact mg_ir rfl rfl rfl rfl hq
theorem h_La_same {z y : Int32} (h0 : M[0]? = some (.inr (7, fs))) (hc : mm_Ct l sc Y_LB_same M [.ref 0, .int z, .int y] R) (hR : ∀ oc M', R oc M' → (∃ b f, b < 2 ∧ oc = .inl (some (.int (nI b))) ∧ M'[66]? = some (ou f) ∧ Q (.inl (some (.int (nI 0)))) (M'.set 66 (ou (vp_updL f 0 (nI b).toInt64)))) ∨ (oc = .inr 0 ∧ Q (.inl (some (.int (nI 1)))) M')) : mm_Ct l sc Y_La_same M [.ref 0, .int z, .int y, .ref 66] Q := by
  refine mm_ofH k_La_same w_La_same rfl (Nat.le_of_ble_eq_true rfl) ?_
  refine mg_run 5 rfl ?_
  refine mg_callVH [.int z, .int y] rfl rfl rfl h0 rfl rfl rfl (hc.mono (fun oc M' h => ?_))
  rcases hR oc M' h with ⟨b, f, hb, rfl, h66, hq⟩ | ⟨rfl, hq⟩
  · refine mg_zeq rfl (by omega) (fun c => ?_) (fun c => ?_)
    · subst c
      refine mg_run 1 rfl ?_
      refine mg_last rfl h66 vp_00 ?_
      refine mg_run 2 rfl ?_
      exact mg_ir rfl rfl rfl rfl hq
    · have e : b = 1 := by omega
      subst e
      refine mg_run 2 rfl ?_
      refine mg_last rfl h66 vp_00 ?_
      refine mg_run 2 rfl ?_
      exact mg_ir rfl rfl rfl rfl hq
  · refine ⟨20, mm_cat0 rfl rfl rfl, ?_⟩
    refine mg_run 2 rfl ?_
    exact mg_ir rfl rfl rfl rfl hq
theorem h_La_has {z y : Int32} (h0 : M[0]? = some (.inr (7, fs))) (hc : mm_Ct l sc Y_LB_has M [.ref 0, .int z, .int y] R) (hR : ∀ oc M', R oc M' → (∃ b f, b < 2 ∧ oc = .inl (some (.int (nI b))) ∧ M'[66]? = some (ou f) ∧ Q (.inl (some (.int (nI 0)))) (M'.set 66 (ou (vp_updL f 0 (nI b).toInt64)))) ∨ (oc = .inr 0 ∧ Q (.inl (some (.int (nI 1)))) M')) : mm_Ct l sc Y_La_has M [.ref 0, .int z, .int y, .ref 66] Q := by
  refine mm_ofH k_La_has w_La_has rfl (Nat.le_of_ble_eq_true rfl) ?_
  refine mg_run 5 rfl ?_
  refine mg_callVH [.int z, .int y] rfl rfl rfl h0 rfl rfl rfl (hc.mono (fun oc M' h => ?_))
  rcases hR oc M' h with ⟨b, f, hb, rfl, h66, hq⟩ | ⟨rfl, hq⟩
  · refine mg_zeq rfl (by omega) (fun c => ?_) (fun c => ?_)
    · subst c
      refine mg_run 1 rfl ?_
      refine mg_last rfl h66 vp_00 ?_
      refine mg_run 2 rfl ?_
      exact mg_ir rfl rfl rfl rfl hq
    · have e : b = 1 := by omega
      subst e
      refine mg_run 2 rfl ?_
      refine mg_last rfl h66 vp_00 ?_
      refine mg_run 2 rfl ?_
      exact mg_ir rfl rfl rfl rfl hq
  · refine ⟨20, mm_cat0 rfl rfl rfl, ?_⟩
    refine mg_run 2 rfl ?_
    exact mg_ir rfl rfl rfl rfl hq
end
