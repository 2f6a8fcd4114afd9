/-! The reference: same, and what copy, has and same throw. -/
section
variable {l : Launch} {sc : Nat × (Nat → Int32)} {M0 M : mm_M} {Q : mm_O → mm_M → Prop} {sl : Nat → List Nat} {tp : List Nat} {pl : Int32} {o th : Nat} {x : Nat → Int32} {A : Nat → Nat → Int32}
theorem lp_Mo_same0 (h : mo_is M0 M x A) (hS : st_is A sl) {a b i : Nat} (ha : a < 12) (hi : i ≤ 2000) (hQ : Q (.inl (some (.int (nI 0)))) M) : mm_Go l sc Y_Mo_same 0 0 M [some (.ref 54), some (.int (nI a)), some (.int (nI b)), some (.int (nI 0)), some (.int (nI i))] [] 53 Q := by
  obtain ⟨a1, a2, a3⟩ := hS a ha
  refine mg_run 2 rfl ?_
  refine mg_get rfl rfl h.2.1 rfl ?_
  refine mg_run 1 rfl ?_
  refine mr_ild 2 rfl h (by decide) (show a < 12 from ha) ?_
  rw [a2]
  refine mg_ge rfl (by omega) (by omega) (fun _ => ?_) (fun _ => ?_)
  · refine mg_run 1 rfl ?_
    exact mg_zr rfl rfl (Or.inl rfl) rfl rfl hQ
  · refine mg_run 1 rfl ?_
    refine mg_zeq rfl (by decide) (fun _ => ?_) (fun h => absurd h (by decide))
    refine mg_run 1 rfl ?_
    exact mg_zr rfl rfl (Or.inl rfl) rfl rfl hQ
theorem lp_Mo_same (h : mo_is M0 M x A) (hS : st_is A sl) (hv : ∀ s i, (sl s).getD i 0 < 10000) {a b : Nat} (ha : a < 12) (hb : b < 12) (hl : (sl a).length = (sl b).length) (hQ : Q (.inl (some (.int (nI (if sl a = sl b then 1 else 0))))) M) : ∀ m i, (sl a).length - i = m → i ≤ (sl a).length → (∀ j, j < i → (sl a).getD j 0 = (sl b).getD j 0) → mm_Go l sc Y_Mo_same 0 0 M [some (.ref 54), some (.int (nI a)), some (.int (nI b)), some (.int (nI 1)), some (.int (nI i))] [] 53 Q := by
  obtain ⟨a1, a2, a3⟩ := hS a ha
  obtain ⟨b1, b2, b3⟩ := hS b hb
  intro m
  induction m with
  | zero =>
    intro i hm hi hj
    have e : i = (sl a).length := by omega
    subst e
    refine mg_run 2 rfl ?_
    refine mg_get rfl rfl h.2.1 rfl ?_
    refine mg_run 1 rfl ?_
    refine mr_ild 2 rfl h (by decide) (show a < 12 from ha) ?_
    rw [a2]
    refine mg_ge rfl (by omega) (by omega) (fun _ => ?_) (fun h => absurd h (by omega))
    refine mg_run 1 rfl ?_
    rw [if_pos (te_ext hl hj)] at hQ
    exact mg_zr rfl rfl (Or.inr rfl) rfl rfl hQ
  | succ m ih =>
    intro i hm hi hj
    refine mg_run 2 rfl ?_
    refine mg_get rfl rfl h.2.1 rfl ?_
    refine mg_run 1 rfl ?_
    refine mr_ild 2 rfl h (by decide) (show a < 12 from ha) ?_
    rw [a2]
    refine mg_ge rfl (by omega) (by omega) (fun h => absurd h (by omega)) (fun hlt => ?_)
    refine mg_run 1 rfl ?_
    refine mg_zeq rfl (by decide) (fun h => absurd h (by decide)) (fun _ => ?_)
    refine mg_run 1 rfl ?_
    refine mg_get rfl rfl h.2.1 rfl ?_
    refine mg_run 2 rfl ?_
    refine mg_mulN rfl ?_
    refine mg_run 1 rfl ?_
    refine mg_addN rfl ?_
    refine mr_ild 1 rfl h (by decide) (show 2000 * a + i < 24000 by omega) ?_
    rw [a3 i hlt]
    refine mg_run 1 rfl ?_
    refine mg_get rfl rfl h.2.1 rfl ?_
    refine mg_run 2 rfl ?_
    refine mg_mulN rfl ?_
    refine mg_run 1 rfl ?_
    refine mg_addN rfl ?_
    refine mr_ild 1 rfl h (by decide) (show 2000 * b + i < 24000 by omega) ?_
    rw [b3 i (by omega)]
    refine mg_icmp rfl (fun e => ?_) (fun e => ?_)
    · have c1 : ¬ (sl a).getD i 0 = (sl b).getD i 0 := fun h9 => e ((xc_inj (hv _ _) (hv _ _)).mpr h9)
      rw [if_neg (fun h9 => c1 (by rw [h9]))] at hQ
      refine mg_run 2 rfl ?_
      refine mg_incN rfl rfl rfl ?_
      refine mg_run 1 rfl ?_
      exact lp_Mo_same0 h hS ha (by omega) hQ
    · have c1 : (sl a).getD i 0 = (sl b).getD i 0 := (xc_inj (hv _ _) (hv _ _)).mp (Decidable.not_not.mp e)
      refine mg_run 3 rfl ?_
      refine mg_incN rfl rfl rfl ?_
      refine mg_run 1 rfl ?_
      refine ih (i + 1) (by omega) (by omega) (fun j hj2 => ?_)
      by_cases ej : j = i
      · rw [ej]; exact c1
      · exact hj j (by omega)
theorem c_Mo_same (h : md_is M0 M sl tp pl o th) (hv : ∀ s i, (sl s).getD i 0 < 10000) {a b : Nat} (ha : a < 12) (hb : b < 12) (hQ : ∀ M', md_is M0 M' sl tp pl o 0 → Q (.inl (some (.int (nI (if sl a = sl b then 1 else 0))))) M') : mm_Ct l sc Y_Mo_same M [.ref 54, .int (nI a), .int (nI b)] Q := by
  obtain ⟨x, A, h1, h2, h3, h4, h5, h6⟩ := h
  obtain ⟨a1, a2, a3⟩ := h2 a ha
  obtain ⟨b1, b2, b3⟩ := h2 b hb
  refine mm_by k_Mo_same w_Mo_same rfl rfl ?_
  refine mg_run 2 rfl ?_
  refine mg_callS [.int (nI a)] rfl rfl rfl rfl rfl rfl (c_Mo_isSlot (fun _ => ?_) (fun e => absurd e (no_nI ha)))
  refine mg_zeq rfl (by decide) (fun h => absurd h (by decide)) (fun _ => ?_)
  refine mg_run 1 rfl ?_
  refine mg_callS [.int (nI b)] rfl rfl rfl rfl rfl rfl (c_Mo_isSlot (fun _ => ?_) (fun e => absurd e (no_nI hb)))
  refine mg_zne rfl (by decide) (fun _ => ?_) (fun h => absurd h (by decide))
  refine mg_run 2 rfl ?_
  refine mg_callV [.int (nI 0), .int (nI 0)] rfl rfl rfl h1.2.1 rfl rfl rfl rfl (c_Mo_throwing h1 (a := 0) (b := 0) (by decide) (by decide) (fun _ _ M1 q1 => ?_) (fun h => absurd h (by decide)) (fun _ h => absurd h (by decide)))
  have hQ1 := hQ M1 (md_th h2 h3 h4 h5 q1)
  refine mg_zeq rfl (by decide) (fun _ => ?_) (fun h => absurd h (by decide))
  refine mg_run 1 rfl ?_
  refine mg_get rfl rfl q1.2.1 rfl ?_
  refine mg_run 1 rfl ?_
  refine mr_ild 2 rfl q1 (by decide) (show a < 12 from ha) ?_
  rw [a2]
  refine mg_run 1 rfl ?_
  refine mg_get rfl rfl q1.2.1 rfl ?_
  refine mg_run 1 rfl ?_
  refine mr_ild 2 rfl q1 (by decide) (show b < 12 from hb) ?_
  rw [b2]
  refine mg_ne rfl (by omega) (by omega) (fun c => ?_) (fun c => ?_)
  · rw [if_neg (fun h9 => c (by rw [h9]))] at hQ1
    refine mg_run 4 rfl ?_
    exact lp_Mo_same0 q1 h2 ha (by omega) hQ1
  · refine mg_run 5 rfl ?_
    exact lp_Mo_same q1 h2 hv ha hb c hQ1 _ 0 rfl (Nat.zero_le _) (fun j hj => absurd hj (Nat.not_lt_zero j))
theorem c_Mo_sameX (h : md_is M0 M sl tp pl o th) {z y : Int32} (hx : no_slot z ∨ no_slot y) (hQ : ∀ M', md_is M0 M' sl tp pl o 1 → Q (.inl (some (.int (nI 0)))) M') : mm_Ct l sc Y_Mo_same M [.ref 54, .int z, .int y] Q := by
  obtain ⟨x, A, h1, h2, h3, h4, h5, h6⟩ := h
  refine mm_by k_Mo_same w_Mo_same rfl rfl ?_
  refine mg_run 2 rfl ?_
  refine mg_callS [.int z] rfl rfl rfl rfl rfl rfl (c_Mo_isSlot (fun e => ?_) (fun _ => ?_))
  · refine mg_zeq rfl (by decide) (fun h => absurd h (by decide)) (fun _ => ?_)
    refine mg_run 1 rfl ?_
    refine mg_callS [.int y] rfl rfl rfl rfl rfl rfl (c_Mo_isSlot (fun e2 => absurd hx (fun h9 => h9.elim e e2)) (fun _ => ?_))
    refine mg_zne rfl (by decide) (fun h => absurd h (by decide)) (fun _ => ?_)
    refine mg_run 3 rfl ?_
    refine mg_callV [.int (nI 1), .int (nI 0)] rfl rfl rfl h1.2.1 rfl rfl rfl rfl (c_Mo_throwing h1 (a := 1) (b := 0) (by decide) (by decide) (fun h => absurd h (by decide)) (fun _ M1 q1 => ?_) (fun h => absurd h (by decide)))
    refine mg_zeq rfl (by decide) (fun h => absurd h (by decide)) (fun _ => ?_)
    refine mg_run 1 rfl ?_
    exact mg_zr rfl rfl (Or.inl rfl) rfl rfl (hQ M1 (md_th h2 h3 h4 h5 q1))
  · refine mg_zeq rfl (by decide) (fun _ => ?_) (fun h => absurd h (by decide))
    refine mg_run 3 rfl ?_
    refine mg_callV [.int (nI 1), .int (nI 0)] rfl rfl rfl h1.2.1 rfl rfl rfl rfl (c_Mo_throwing h1 (a := 1) (b := 0) (by decide) (by decide) (fun h => absurd h (by decide)) (fun _ M1 q1 => ?_) (fun h => absurd h (by decide)))
    refine mg_zeq rfl (by decide) (fun h => absurd h (by decide)) (fun _ => ?_)
    refine mg_run 1 rfl ?_
    exact mg_zr rfl rfl (Or.inl rfl) rfl rfl (hQ M1 (md_th h2 h3 h4 h5 q1))
theorem c_Mo_hasX (h : md_is M0 M sl tp pl o th) {z y : Int32} (hx : no_slot z ∨ ¬ is_let y) (hQ : ∀ M', md_is M0 M' sl tp pl o 1 → Q (.inl (some (.int (nI 0)))) M') : mm_Ct l sc Y_Mo_has M [.ref 54, .int z, .int y] Q := by
  obtain ⟨x, A, h1, h2, h3, h4, h5, h6⟩ := h
  refine mm_by k_Mo_has w_Mo_has rfl rfl ?_
  refine mg_run 2 rfl ?_
  refine mg_callS [.int z] rfl rfl rfl rfl rfl rfl (c_Mo_isSlot (fun e => ?_) (fun _ => ?_))
  · refine mg_zeq rfl (by decide) (fun h => absurd h (by decide)) (fun _ => ?_)
    refine mg_run 1 rfl ?_
    refine mg_callS [.int y] rfl rfl rfl rfl rfl rfl (c_Mo_isLetter (fun e2 => absurd hx (fun h9 => h9.elim e (fun h8 => h8 e2))) (fun _ => ?_))
    refine mg_zne rfl (by decide) (fun h => absurd h (by decide)) (fun _ => ?_)
    refine mg_run 3 rfl ?_
    refine mg_callV [.int (nI 1), .int (nI 0)] rfl rfl rfl h1.2.1 rfl rfl rfl rfl (c_Mo_throwing h1 (a := 1) (b := 0) (by decide) (by decide) (fun h => absurd h (by decide)) (fun _ M1 q1 => ?_) (fun h => absurd h (by decide)))
    refine mg_zeq rfl (by decide) (fun h => absurd h (by decide)) (fun _ => ?_)
    refine mg_run 1 rfl ?_
    exact mg_zr rfl rfl (Or.inl rfl) rfl rfl (hQ M1 (md_th h2 h3 h4 h5 q1))
  · refine mg_zeq rfl (by decide) (fun _ => ?_) (fun h => absurd h (by decide))
    refine mg_run 3 rfl ?_
    refine mg_callV [.int (nI 1), .int (nI 0)] rfl rfl rfl h1.2.1 rfl rfl rfl rfl (c_Mo_throwing h1 (a := 1) (b := 0) (by decide) (by decide) (fun h => absurd h (by decide)) (fun _ M1 q1 => ?_) (fun h => absurd h (by decide)))
    refine mg_zeq rfl (by decide) (fun h => absurd h (by decide)) (fun _ => ?_)
    refine mg_run 1 rfl ?_
    exact mg_zr rfl rfl (Or.inl rfl) rfl rfl (hQ M1 (md_th h2 h3 h4 h5 q1))
theorem c_Mo_copyX (h : md_is M0 M sl tp pl o th) {z y : Int32} (hx : no_slot z ∨ no_slot y) (hQ : ∀ M', md_is M0 M' sl tp pl o 1 → Q (.inl none) M') : mm_Ct l sc Y_Mo_copy M [.ref 54, .int z, .int y] Q := by
  obtain ⟨x, A, h1, h2, h3, h4, h5, h6⟩ := h
  refine mm_by k_Mo_copy w_Mo_copy rfl rfl ?_
  refine mg_run 2 rfl ?_
  refine mg_callS [.int z] rfl rfl rfl rfl rfl rfl (c_Mo_isSlot (fun e => ?_) (fun _ => ?_))
  · refine mg_zeq rfl (by decide) (fun h => absurd h (by decide)) (fun _ => ?_)
    refine mg_run 1 rfl ?_
    refine mg_callS [.int y] rfl rfl rfl rfl rfl rfl (c_Mo_isSlot (fun e2 => absurd hx (fun h9 => h9.elim e e2)) (fun _ => ?_))
    refine mg_zne rfl (by decide) (fun h => absurd h (by decide)) (fun _ => ?_)
    refine mg_run 3 rfl ?_
    refine mg_callV [.int (nI 1), .int (nI 0)] rfl rfl rfl h1.2.1 rfl rfl rfl rfl (c_Mo_throwing h1 (a := 1) (b := 0) (by decide) (by decide) (fun h => absurd h (by decide)) (fun _ M1 q1 => ?_) (fun h => absurd h (by decide)))
    refine mg_zeq rfl (by decide) (fun h => absurd h (by decide)) (fun _ => ?_)
    exact mg_vr rfl rfl rfl rfl (hQ M1 (md_th h2 h3 h4 h5 q1))
  · refine mg_zeq rfl (by decide) (fun _ => ?_) (fun h => absurd h (by decide))
    refine mg_run 3 rfl ?_
    refine mg_callV [.int (nI 1), .int (nI 0)] rfl rfl rfl h1.2.1 rfl rfl rfl rfl (c_Mo_throwing h1 (a := 1) (b := 0) (by decide) (by decide) (fun h => absurd h (by decide)) (fun _ M1 q1 => ?_) (fun h => absurd h (by decide)))
    refine mg_zeq rfl (by decide) (fun h => absurd h (by decide)) (fun _ => ?_)
    exact mg_vr rfl rfl rfl rfl (hQ M1 (md_th h2 h3 h4 h5 q1))
end
