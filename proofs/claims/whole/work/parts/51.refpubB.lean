/-! The reference: redexes, size, copy, place, how. -/
section
variable {l : Launch} {sc : Nat × (Nat → Int32)} {M0 M : mm_M} {Q : mm_O → mm_M → Prop} {sl : Nat → List Nat} {tp : List Nat} {pl : Int32} {o th : Nat}
theorem lp_Mo_redexes {r : List Nat} {x : Nat → Int32} {A : Nat → Nat → Int32} {x1 x2 : Int32} (h : mo_is M0 M x A) (hR : ro_is x A r) (hv : ∀ i, r.getD i 0 < 10000) (hcl : cl r) : ∀ m i n, r.length - i = m → i ≤ r.length → n ≤ i → Q (.inl (some (.int (nI (n + te_rc r m i))))) M → mm_Go l sc Y_Mo_redexes 0 0 M [some (.ref 54), some (.int x1), some (.int x2), some (.int (nI n)), some (.int (nI i))] [] 51 Q := by
  have h4 := hR.2.1
  intro m
  induction m with
  | zero =>
    intro i n hm hi hn hQ
    refine mg_run 2 rfl ?_
    refine mg_get rfl rfl h.2.1 rfl ?_
    rw [hR.1]
    refine mg_ge rfl (by omega) (by omega) (fun _ => ?_) (fun h => absurd h (by omega))
    refine mg_run 1 rfl ?_
    exact mg_ir rfl rfl rfl rfl hQ
  | succ m ih =>
    intro i n hm hi hn hQ
    have h5 := rx_lt (te_rh r i)
    refine mg_run 2 rfl ?_
    refine mg_get rfl rfl h.2.1 rfl ?_
    rw [hR.1]
    refine mg_ge rfl (by omega) (by omega) (fun h => absurd h (by omega)) (fun hlt => ?_)
    refine mg_run 3 rfl ?_
    refine mg_callV [.int (nI i)] rfl rfl rfl h.2.1 rfl rfl rfl rfl (c_Mo_redex h hR hv hcl hlt ?_)
    rw [te_rc] at hQ
    refine mg_zle rfl (by omega) (fun e => ?_) (fun e => ?_)
    · rw [if_pos ((rx_0 r i).mp e)] at hQ
      refine mg_run 1 rfl ?_
      refine mg_addN rfl ?_
      refine mg_run 1 rfl ?_
      refine mg_incN rfl rfl rfl ?_
      refine mg_run 1 rfl ?_
      refine ih (i + 1) (n + 0) (by omega) (by omega) (by omega) ?_
      rw [show n + 0 + te_rc r m (i + 1) = n + (0 + te_rc r m (i + 1)) by omega]
      exact hQ
    · rw [if_neg (fun h9 => by rw [(rx_0 r i).mpr h9] at e; omega)] at hQ
      refine mg_run 2 rfl ?_
      refine mg_addN rfl ?_
      refine mg_run 1 rfl ?_
      refine mg_incN rfl rfl rfl ?_
      refine mg_run 1 rfl ?_
      refine ih (i + 1) (n + 1) (by omega) (by omega) (by omega) ?_
      rw [show n + 1 + te_rc r m (i + 1) = n + (1 + te_rc r m (i + 1)) by omega]
      exact hQ
theorem c_Mo_redexes (h : md_is M0 M sl tp pl o th) {a : Nat} (ha : a < 12) (hn : 0 < (sl a).length) (hv : ∀ i, (sl a).getD i 0 < 10000) (hcl : cl (sl a)) (hQ : ∀ M', md_is M0 M' sl tp pl o 0 → Q (.inl (some (.int (nI (te_rc (sl a) (sl a).length 0))))) M') : mm_Ct l sc Y_Mo_redexes M [.ref 54, .int (nI a)] Q := by
  obtain ⟨x, A, h1, h2, h3, h4, h5, h6⟩ := h
  obtain ⟨a1, a2, a3⟩ := h2 a ha
  refine mm_by k_Mo_redexes w_Mo_redexes rfl rfl ?_
  refine mg_run 1 rfl ?_
  refine mg_callS [.int (nI a)] rfl rfl rfl rfl rfl rfl (c_Mo_isSlot (fun _ => ?_) (fun e => absurd e (no_nI ha)))
  refine mg_zne rfl (by decide) (fun _ => ?_) (fun h => absurd h (by decide))
  refine mg_run 5 rfl ?_
  refine mg_zne (a := 0) rfl (by decide) (fun h => absurd h (by decide)) (fun _ => ?_)
  refine mg_run 1 rfl ?_
  refine mg_get rfl rfl h1.2.1 rfl ?_
  refine mg_run 1 rfl ?_
  refine mr_ild 2 rfl h1 (by decide) (show a < 12 from ha) ?_
  rw [a2]
  refine mg_zne rfl (by omega) (fun _ => ?_) (fun h => absurd h (by omega))
  refine mg_run 1 rfl ?_
  refine mg_callV [.int (nI 0), .int (nI 0)] rfl rfl rfl h1.2.1 rfl rfl rfl rfl (c_Mo_throwing h1 (a := 0) (b := 0) (by decide) (by decide) (fun _ _ M1 q1 => ?_) (fun h => absurd h (by decide)) (fun _ h => absurd h (by decide)))
  refine mg_zeq rfl (by decide) (fun _ => ?_) (fun h => absurd h (by decide))
  refine mg_run 2 rfl ?_
  refine mg_callV [.int (nI a)] rfl rfl rfl q1.2.1 rfl rfl rfl rfl (c_Mo_load ha q1 h2 (fun M2 x2 A2 b1 b2 b3 b4 => ?_))
  refine mg_run 4 rfl ?_
  have F : fx [0, 8] x x2 := (fx.up (by decide) _ _).tr (b2.wk (by decide))
  have e4 : x2 4 = nI o := by rw [F 4 (by decide)]; exact h5
  have e0 : x2 0 = nI 0 := by rw [b2 0 (by decide), pk_us]
  refine lp_Mo_redexes b1 b4 hv hcl _ 0 0 rfl (Nat.zero_le _) (Nat.le_refl _) ?_
  rw [Nat.zero_add]
  exact hQ M2 (md_fr h3 h4 b1 (h2.fr b3 (by decide) (by decide)) F b3 (by decide) (by decide) (by decide) e4 e0)
theorem c_Mo_redexesX (h : md_is M0 M sl tp pl o th) {z : Int32} (hx : no_slot z) (hQ : ∀ M', md_is M0 M' sl tp pl o 1 → Q (.inl (some (.int (nI 0)))) M') : mm_Ct l sc Y_Mo_redexes M [.ref 54, .int z] Q := by
  obtain ⟨x, A, h1, h2, h3, h4, h5, h6⟩ := h
  refine mm_by k_Mo_redexes w_Mo_redexes rfl rfl ?_
  refine mg_run 1 rfl ?_
  refine mg_callS [.int z] rfl rfl rfl rfl rfl rfl (c_Mo_isSlot (fun e => absurd hx e) (fun _ => ?_))
  refine mg_zne rfl (by decide) (fun h => absurd h (by decide)) (fun _ => ?_)
  refine mg_run 6 rfl ?_
  refine mg_zne (a := 1) rfl (by decide) (fun _ => ?_) (fun h => absurd h (by decide))
  refine mg_run 1 rfl ?_
  refine mg_callV [.int (nI 1), .int (nI 0)] rfl rfl rfl h1.2.1 rfl rfl rfl rfl (c_Mo_throwing h1 (a := 1) (b := 0) (by decide) (by decide) (fun h => absurd h (by decide)) (fun _ M1 q1 => ?_) (fun h => absurd h (by decide)))
  refine mg_zeq rfl (by decide) (fun h => absurd h (by decide)) (fun _ => ?_)
  refine mg_run 1 rfl ?_
  exact mg_ir rfl rfl rfl rfl (hQ M1 (md_th h2 h3 h4 h5 q1))
theorem c_Mo_redexesE (h : md_is M0 M sl tp pl o th) {a : Nat} (ha : a < 12) (hn : (sl a).length = 0) (hQ : ∀ M', md_is M0 M' sl tp pl o 2 → Q (.inl (some (.int (nI 0)))) M') : mm_Ct l sc Y_Mo_redexes M [.ref 54, .int (nI a)] Q := by
  obtain ⟨x, A, h1, h2, h3, h4, h5, h6⟩ := h
  obtain ⟨a1, a2, a3⟩ := h2 a ha
  refine mm_by k_Mo_redexes w_Mo_redexes rfl rfl ?_
  refine mg_run 1 rfl ?_
  refine mg_callS [.int (nI a)] rfl rfl rfl rfl rfl rfl (c_Mo_isSlot (fun _ => ?_) (fun e => absurd e (no_nI ha)))
  refine mg_zne rfl (by decide) (fun _ => ?_) (fun h => absurd h (by decide))
  refine mg_run 5 rfl ?_
  refine mg_zne (a := 0) rfl (by decide) (fun h => absurd h (by decide)) (fun _ => ?_)
  refine mg_run 1 rfl ?_
  refine mg_get rfl rfl h1.2.1 rfl ?_
  refine mg_run 1 rfl ?_
  refine mr_ild 2 rfl h1 (by decide) (show a < 12 from ha) ?_
  rw [a2]
  refine mg_zne rfl (by omega) (fun h => absurd h (by omega)) (fun _ => ?_)
  refine mg_run 2 rfl ?_
  refine mg_callV [.int (nI 0), .int (nI 1)] rfl rfl rfl h1.2.1 rfl rfl rfl rfl (c_Mo_throwing h1 (a := 0) (b := 1) (by decide) (by decide) (fun _ h => absurd h (by decide)) (fun h => absurd h (by decide)) (fun _ _ M1 q1 => ?_))
  refine mg_zeq rfl (by decide) (fun h => absurd h (by decide)) (fun _ => ?_)
  refine mg_run 1 rfl ?_
  exact mg_ir rfl rfl rfl rfl (hQ M1 (md_th h2 h3 h4 h5 q1))
theorem c_Mo_size (h : md_is M0 M sl tp pl o th) {a : Nat} (ha : a < 12) (hQ : ∀ M', md_is M0 M' sl tp pl o 0 → Q (.inl (some (.int (nI (sl a).length)))) M') : mm_Ct l sc Y_Mo_size M [.ref 54, .int (nI a)] Q := by
  obtain ⟨x, A, h1, h2, h3, h4, h5, h6⟩ := h
  obtain ⟨a1, a2, a3⟩ := h2 a ha
  refine mm_by k_Mo_size w_Mo_size rfl rfl ?_
  refine mg_run 2 rfl ?_
  refine mg_callS [.int (nI a)] rfl rfl rfl rfl rfl rfl (c_Mo_isSlot (fun _ => ?_) (fun e => absurd e (no_nI ha)))
  refine mg_zne rfl (by decide) (fun _ => ?_) (fun h => absurd h (by decide))
  refine mg_run 2 rfl ?_
  refine mg_callV [.int (nI 0), .int (nI 0)] rfl rfl rfl h1.2.1 rfl rfl rfl rfl (c_Mo_throwing h1 (a := 0) (b := 0) (by decide) (by decide) (fun _ _ M1 q1 => ?_) (fun h => absurd h (by decide)) (fun _ h => absurd h (by decide)))
  refine mg_zeq rfl (by decide) (fun _ => ?_) (fun h => absurd h (by decide))
  refine mg_run 1 rfl ?_
  refine mg_get rfl rfl q1.2.1 rfl ?_
  refine mg_run 1 rfl ?_
  refine mr_ild 2 rfl q1 (by decide) (show a < 12 from ha) ?_
  rw [a2]
  exact mg_ir rfl rfl rfl rfl (hQ M1 (md_th h2 h3 h4 h5 q1))
theorem c_Mo_sizeX (h : md_is M0 M sl tp pl o th) {z : Int32} (hx : no_slot z) (hQ : ∀ M', md_is M0 M' sl tp pl o 1 → Q (.inl (some (.int (nI 0)))) M') : mm_Ct l sc Y_Mo_size M [.ref 54, .int z] Q := by
  obtain ⟨x, A, h1, h2, h3, h4, h5, h6⟩ := h
  refine mm_by k_Mo_size w_Mo_size rfl rfl ?_
  refine mg_run 2 rfl ?_
  refine mg_callS [.int z] rfl rfl rfl rfl rfl rfl (c_Mo_isSlot (fun e => absurd hx e) (fun _ => ?_))
  refine mg_zne rfl (by decide) (fun h => absurd h (by decide)) (fun _ => ?_)
  refine mg_run 3 rfl ?_
  refine mg_callV [.int (nI 1), .int (nI 0)] rfl rfl rfl h1.2.1 rfl rfl rfl rfl (c_Mo_throwing h1 (a := 1) (b := 0) (by decide) (by decide) (fun h => absurd h (by decide)) (fun _ M1 q1 => ?_) (fun h => absurd h (by decide)))
  refine mg_zeq rfl (by decide) (fun h => absurd h (by decide)) (fun _ => ?_)
  refine mg_run 1 rfl ?_
  exact mg_ir rfl rfl rfl rfl (hQ M1 (md_th h2 h3 h4 h5 q1))
theorem d_Mo_place (h : md_is M0 M sl tp pl o th) (hQ : ∀ M', md_is M0 M' sl tp pl o 0 → Q (.inl (some (.int pl))) M') : mm_Ct l sc Y_Mo_place M [.ref 54] Q := by
  obtain ⟨x, A, h1, h2, h3, h4, h5, h6⟩ := h
  refine c_Mo_place h1 (fun M1 q1 => ?_)
  rw [h4]
  exact hQ M1 (md_th h2 h3 h4 h5 q1)
theorem d_Mo_how (h : md_is M0 M sl tp pl o th) (hQ : ∀ M', md_is M0 M' sl tp pl o 0 → Q (.inl (some (.int (nI o)))) M') : mm_Ct l sc Y_Mo_how M [.ref 54] Q := by
  obtain ⟨x, A, h1, h2, h3, h4, h5, h6⟩ := h
  refine c_Mo_how h1 (fun M1 q1 => ?_)
  rw [h5]
  exact hQ M1 (md_th h2 h3 h4 h5 q1)
theorem d_Mo_thrown (h : md_is M0 M sl tp pl o th) (hQ : Q (.inl (some (.int (nI th)))) M) : mm_Ct l sc Y_Mo_thrown M [.ref 54] Q := by
  obtain ⟨x, A, h1, h2, h3, h4, h5, h6⟩ := h
  refine c_Mo_thrown h1 ?_
  rw [h6]
  exact hQ
end
