/-! The reference: print, the good road. -/
section
variable {l : Launch} {sc : Nat × (Nat → Int32)} {M0 M : mm_M} {Q : mm_O → mm_M → Prop} {sl : Nat → List Nat} {tp : List Nat} {pl : Int32} {o th : Nat}
theorem c_Mo_print (h : md_is M0 M sl tp pl o th) {a i : Nat} (ha : a < 12) (hi : i < (sl a).length) (hv : (sl a).getD i 0 < 10000) (h3 : 3 ≤ (sl a).getD i 0) (hQ : ∀ M', md_is M0 M' sl tp pl o 0 → Q (.inl (some (.int (nI (te_pr ((sl a).getD i 0)))))) M') : mm_Ct l sc Y_Mo_print M [.ref 54, .int (nI a), .int (nI i)] Q := by
  obtain ⟨x, A, h1, h2, hT, h4, h5, h6⟩ := h
  obtain ⟨a1, a2, a3⟩ := h2 a ha
  have e0 : (nI 0).toInt = 0 := by decide
  have ei : (nI i).toInt = i := nI_toInt (by omega)
  have el : (nI ((sl a).length - 1)).toInt = ((sl a).length - 1 : Nat) := nI_toInt (by omega)
  refine mm_by k_Mo_print w_Mo_print rfl rfl ?_
  refine mg_run 1 rfl ?_
  refine mg_callS [.int (nI a)] rfl rfl rfl rfl rfl rfl (c_Mo_isSlot (fun _ => ?_) (fun e => absurd e (no_nI ha)))
  refine mg_zne rfl (by decide) (fun _ => ?_) (fun h => absurd h (by decide))
  refine mg_run 5 rfl ?_
  refine mg_zne (a := 0) rfl (by decide) (fun h => absurd h (by decide)) (fun _ => ?_)
  refine mg_run 3 rfl ?_
  refine mg_get rfl rfl h1.2.1 rfl ?_
  refine mg_run 1 rfl ?_
  refine mr_ild 2 rfl h1 (by decide) (show a < 12 from ha) ?_
  rw [a2]
  refine mg_run 1 rfl ?_
  refine mg_subN rfl (by omega) ?_
  refine mg_callS [.int (nI i), .int (nI 0), .int (nI ((sl a).length - 1))] rfl rfl rfl rfl rfl rfl (c_Mo_in (fun _ _ => ?_) (fun e => absurd e (by omega)))
  refine mg_zne rfl (by decide) (fun _ => ?_) (fun h => absurd h (by decide))
  refine mg_run 1 rfl ?_
  refine mg_callV [.int (nI 0), .int (nI 0)] rfl rfl rfl h1.2.1 rfl rfl rfl rfl (c_Mo_throwing h1 (a := 0) (b := 0) (by decide) (by decide) (fun _ _ M1 q1 => ?_) (fun h => absurd h (by decide)) (fun _ h => absurd h (by decide)))
  refine mg_zeq rfl (by decide) (fun _ => ?_) (fun h => absurd h (by decide))
  refine mg_run 1 rfl ?_
  refine mg_get rfl rfl q1.2.1 rfl ?_
  refine mg_run 2 rfl ?_
  refine mg_mulN rfl ?_
  refine mg_run 1 rfl ?_
  refine mg_addN rfl ?_
  refine mr_ild 1 rfl q1 (by decide) (show 2000 * a + i < 24000 by omega) ?_
  rw [a3 i hi]
  refine mg_run 1 rfl ?_
  exact lp_Mo_print2 hv h3 (hQ M1 (md_th h2 hT h4 h5 q1))
end
