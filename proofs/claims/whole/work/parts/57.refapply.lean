/-! The reference: print's refusals; apply. -/
theorem nI_pm {n : Nat} (h : n ≤ 100000) : (nI n + -1).toInt = (n : Int) - 1 := by
  cases n with
  | zero => decide
  | succ n =>
    rw [pk_m1, nI_toInt (by omega)]
    omega
section
variable {l : Launch} {sc : Nat × (Nat → Int32)} {M0 M : mm_M} {Q : mm_O → mm_M → Prop} {sl : Nat → List Nat} {tp : List Nat} {pl : Int32} {o th : Nat}
theorem c_Mo_printX (h : md_is M0 M sl tp pl o th) {z y : Int32} (hx : no_slot z) (hQ : ∀ M', md_is M0 M' sl tp pl o 1 → Q (.inl (some (.int (nI 0)))) M') : mm_Ct l sc Y_Mo_print M [.ref 54, .int z, .int y] Q := by
  obtain ⟨x, A, h1, h2, h3, h4, h5, h6⟩ := h
  refine mm_by k_Mo_print w_Mo_print rfl rfl ?_
  refine mg_run 1 rfl ?_
  refine mg_callS [.int z] rfl rfl rfl rfl rfl rfl (c_Mo_isSlot (fun e => absurd hx e) (fun _ => ?_))
  refine mg_zne rfl (by decide) (fun h => absurd h (by decide)) (fun _ => ?_)
  refine mg_run 6 rfl ?_
  refine mg_zne (a := 1) rfl (by decide) (fun _ => ?_) (fun h => absurd h (by decide))
  refine mg_run 1 rfl ?_
  refine mg_callV [.int (nI 1), .int (nI 0)] rfl rfl rfl h1.2.1 rfl rfl rfl rfl (c_Mo_throwing h1 (a := 1) (b := 0) (by decide) (by decide) (fun h => absurd h (by decide)) (fun _ M1 q1 => ?_) (fun h => absurd h (by decide)))
  refine mg_zeq rfl (by decide) (fun h => absurd h (by decide)) (fun _ => ?_)
  refine mg_run 1 rfl ?_
  exact mg_ir rfl rfl rfl rfl (hQ M1 (md_th h2 h3 h4 h5 q1))
theorem c_Mo_printE (h : md_is M0 M sl tp pl o th) {a : Nat} (ha : a < 12) {y : Int32} (hy : y.toInt < 0 ∨ ((sl a).length : Int) ≤ y.toInt) (hQ : ∀ M', md_is M0 M' sl tp pl o 2 → Q (.inl (some (.int (nI 0)))) M') : mm_Ct l sc Y_Mo_print M [.ref 54, .int (nI a), .int y] Q := by
  obtain ⟨x, A, h1, h2, h3, h4, h5, h6⟩ := h
  obtain ⟨a1, a2, a3⟩ := h2 a ha
  have e0 : (nI 0).toInt = 0 := by decide
  have el : (nI (sl a).length + -1).toInt = ((sl a).length : Int) - 1 := nI_pm (by omega)
  refine mm_by k_Mo_print w_Mo_print rfl rfl ?_
  refine mg_run 1 rfl ?_
  refine mg_callS [.int (nI a)] rfl rfl rfl rfl rfl rfl (c_Mo_isSlot (fun _ => ?_) (fun e => absurd e (no_nI ha)))
  refine mg_zne rfl (by decide) (fun _ => ?_) (fun h => absurd h (by decide))
  refine mg_run 5 rfl ?_
  refine mg_zne (a := 0) rfl (by decide) (fun h => absurd h (by decide)) (fun _ => ?_)
  refine mg_run 3 rfl ?_
  refine mg_get rfl rfl h1.2.1 rfl ?_
  refine mg_run 1 rfl ?_
  refine mr_ild 2 rfl h1 (by decide) (show a < 12 from ha) ?_
  rw [a2]
  refine mg_run 1 rfl ?_
  refine mg_sub1 rfl ?_
  refine mg_callS [.int y, .int (nI 0), .int (nI (sl a).length + -1)] rfl rfl rfl rfl rfl rfl (c_Mo_in (fun _ _ => absurd hy (by omega)) (fun _ => ?_))
  refine mg_zne rfl (by decide) (fun h => absurd h (by decide)) (fun _ => ?_)
  refine mg_run 2 rfl ?_
  refine mg_callV [.int (nI 0), .int (nI 1)] rfl rfl rfl h1.2.1 rfl rfl rfl rfl (c_Mo_throwing h1 (a := 0) (b := 1) (by decide) (by decide) (fun _ h => absurd h (by decide)) (fun h => absurd h (by decide)) (fun _ _ M1 q1 => ?_))
  refine mg_zeq rfl (by decide) (fun h => absurd h (by decide)) (fun _ => ?_)
  refine mg_run 1 rfl ?_
  exact mg_ir rfl rfl rfl rfl (hQ M1 (md_th h2 h3 h4 h5 q1))
/-- apply from its look at bad on, when bad -/
theorem lp_Mo_applyX (h : md_is M0 M sl tp pl o th) {z y w : Int32} {x4 x5 : Option Value} (hQ : ∀ M', md_is M0 M' sl tp pl o 1 → Q (.inl (some (.int (nI 0)))) M') : mm_Go l sc Y_Mo_apply 0 0 M [some (.ref 54), some (.int z), some (.int y), some (.int w), x4, x5] [.int (nI 1)] 26 Q := by
  obtain ⟨x, A, h1, h2, h3, h4, h5, h6⟩ := h
  refine mg_run 4 rfl ?_
  refine mg_zne (a := 1) rfl (by decide) (fun _ => ?_) (fun h => absurd h (by decide))
  refine mg_run 1 rfl ?_
  refine mg_callV [.int (nI 1), .int (nI 0)] rfl rfl rfl h1.2.1 rfl rfl rfl rfl (c_Mo_throwing h1 (a := 1) (b := 0) (by decide) (by decide) (fun h => absurd h (by decide)) (fun _ M1 q1 => ?_) (fun h => absurd h (by decide)))
  refine mg_zeq rfl (by decide) (fun h => absurd h (by decide)) (fun _ => ?_)
  refine mg_run 1 rfl ?_
  exact mg_ir rfl rfl rfl rfl (hQ M1 (md_th h2 h3 h4 h5 q1))
theorem c_Mo_applyX (h : md_is M0 M sl tp pl o th) {z y w : Int32} (hx : no_slot z ∨ no_slot y ∨ no_slot w) (hQ : ∀ M', md_is M0 M' sl tp pl o 1 → Q (.inl (some (.int (nI 0)))) M') : mm_Ct l sc Y_Mo_apply M [.ref 54, .int z, .int y, .int w] Q := by
  refine mm_by k_Mo_apply w_Mo_apply rfl rfl ?_
  refine mg_run 1 rfl ?_
  refine mg_callS [.int z] rfl rfl rfl rfl rfl rfl (c_Mo_isSlot (fun e1 => ?_) (fun _ => ?_))
  · refine mg_zeq rfl (by decide) (fun h => absurd h (by decide)) (fun _ => ?_)
    refine mg_run 1 rfl ?_
    refine mg_callS [.int y] rfl rfl rfl rfl rfl rfl (c_Mo_isSlot (fun e2 => ?_) (fun _ => ?_))
    · refine mg_zeq rfl (by decide) (fun h => absurd h (by decide)) (fun _ => ?_)
      refine mg_run 1 rfl ?_
      refine mg_callS [.int w] rfl rfl rfl rfl rfl rfl (c_Mo_isSlot (fun e3 => absurd hx (fun h9 => h9.elim e1 (fun h8 => h8.elim e2 e3))) (fun _ => ?_))
      refine mg_zne rfl (by decide) (fun h => absurd h (by decide)) (fun _ => ?_)
      refine mg_run 2 rfl ?_
      exact lp_Mo_applyX h hQ
    · refine mg_zeq rfl (by decide) (fun _ => ?_) (fun h => absurd h (by decide))
      refine mg_run 2 rfl ?_
      exact lp_Mo_applyX h hQ
  · refine mg_zeq rfl (by decide) (fun _ => ?_) (fun h => absurd h (by decide))
    refine mg_run 2 rfl ?_
    exact lp_Mo_applyX h hQ
/-- apply when it throws its second -/
theorem lp_Mo_applyE (h : md_is M0 M sl tp pl o th) {z y w : Int32} {x4 x5 : Option Value} (hQ : ∀ M', md_is M0 M' sl tp pl o 2 → Q (.inl (some (.int (nI 0)))) M') : mm_Go l sc Y_Mo_apply 0 0 M [some (.ref 54), some (.int z), some (.int y), some (.int w), x4, x5] [.int (nI 0), .ref 54] 75 Q := by
  obtain ⟨x, A, h1, h2, h3, h4, h5, h6⟩ := h
  refine mg_run 2 rfl ?_
  refine mg_callV [.int (nI 0), .int (nI 1)] rfl rfl rfl h1.2.1 rfl rfl rfl rfl (c_Mo_throwing h1 (a := 0) (b := 1) (by decide) (by decide) (fun _ h => absurd h (by decide)) (fun h => absurd h (by decide)) (fun _ _ M1 q1 => ?_))
  refine mg_zeq rfl (by decide) (fun h => absurd h (by decide)) (fun _ => ?_)
  refine mg_run 1 rfl ?_
  exact mg_ir rfl rfl rfl rfl (hQ M1 (md_th h2 h3 h4 h5 q1))
theorem lp_Mo_apply1 {a b c : Nat} {y4 : Int32} (ha : a < 12) : ∀ m i (M : mm_M) (x : Nat → Int32) (A : Nat → Nat → Int32) (out : List Nat), mo_is M0 M x A → st_is A sl → nx_is x A out → (sl a).length - i = m → i ≤ (sl a).length →
    (∀ M' x' A' i', mo_is M0 M' x' A' → fx [10, 11] x x' → fa [4] A A' → nx_is x' A' (out ++ (sl a).drop i) → mm_Go l sc Y_Mo_apply 0 0 M' [some (.ref 54), some (.int (nI a)), some (.int (nI b)), some (.int (nI c)), some (.int y4), some (.int i')] [] 134 Q) →
    mm_Go l sc Y_Mo_apply 0 0 M [some (.ref 54), some (.int (nI a)), some (.int (nI b)), some (.int (nI c)), some (.int y4), some (.int (nI i))] [] 100 Q := by
  intro m
  induction m with
  | zero =>
    intro i M x A out h hS hn hm hi hQ
    obtain ⟨a1, a2, a3⟩ := hS a ha
    refine mg_run 2 rfl ?_
    refine mg_get rfl rfl h.2.1 rfl ?_
    refine mg_run 1 rfl ?_
    refine mr_ild 2 rfl h (by decide) (show a < 12 from ha) ?_
    rw [a2]
    refine mg_ge rfl (by omega) (by omega) (fun _ => ?_) (fun h => absurd h (by omega))
    refine hQ M x A _ h (fx.rf _ _) (fa.rf _ _) ?_
    rw [List.drop_eq_nil_of_le (by omega), List.append_nil]
    exact hn
  | succ m ih =>
    intro i M x A out h hS hn hm hi hQ
    obtain ⟨a1, a2, a3⟩ := hS a ha
    refine mg_run 2 rfl ?_
    refine mg_get rfl rfl h.2.1 rfl ?_
    refine mg_run 1 rfl ?_
    refine mr_ild 2 rfl h (by decide) (show a < 12 from ha) ?_
    rw [a2]
    refine mg_ge rfl (by omega) (by omega) (fun h => absurd h (by omega)) (fun hlt => ?_)
    refine mg_run 2 rfl ?_
    refine mg_get rfl rfl h.2.1 rfl ?_
    refine mg_run 2 rfl ?_
    refine mg_mulN rfl ?_
    refine mg_run 1 rfl ?_
    refine mg_addN rfl ?_
    refine mr_ild 1 rfl h (by decide) (show 2000 * a + i < 24000 by omega) ?_
    rw [a3 i hlt]
    refine mg_callV [.int (xc ((sl a).getD i 0))] rfl rfl rfl h.2.1 rfl rfl rfl rfl (c_Mo_put h hn (fun M2 x2 A2 p1 p2 p3 p4 => ?_))
    refine mg_incN rfl rfl rfl ?_
    refine mg_run 1 rfl ?_
    refine ih (i + 1) M2 x2 A2 _ p1 (hS.fr p3 (by decide) (by decide)) p4 (by omega) (by omega) (fun M' x' A' i' q1 q2 q3 q4 => hQ M' x' A' i' q1 (p2.tr q2) (p3.tr q3) ?_)
    rw [te_drop hlt, ← List.singleton_append, ← List.append_assoc]
    exact q4
theorem lp_Mo_apply2 {a b c : Nat} {y4 : Int32} (hb : b < 12) : ∀ m i (M : mm_M) (x : Nat → Int32) (A : Nat → Nat → Int32) (out : List Nat), mo_is M0 M x A → st_is A sl → nx_is x A out → (sl b).length - i = m → i ≤ (sl b).length →
    (∀ M' x' A' i', mo_is M0 M' x' A' → fx [10, 11] x x' → fa [4] A A' → nx_is x' A' (out ++ (sl b).drop i) → mm_Go l sc Y_Mo_apply 0 0 M' [some (.ref 54), some (.int (nI a)), some (.int (nI b)), some (.int (nI c)), some (.int y4), some (.int i')] [] 171 Q) →
    mm_Go l sc Y_Mo_apply 0 0 M [some (.ref 54), some (.int (nI a)), some (.int (nI b)), some (.int (nI c)), some (.int y4), some (.int (nI i))] [] 137 Q := by
  intro m
  induction m with
  | zero =>
    intro i M x A out h hS hn hm hi hQ
    obtain ⟨a1, a2, a3⟩ := hS b hb
    refine mg_run 2 rfl ?_
    refine mg_get rfl rfl h.2.1 rfl ?_
    refine mg_run 1 rfl ?_
    refine mr_ild 2 rfl h (by decide) (show b < 12 from hb) ?_
    rw [a2]
    refine mg_ge rfl (by omega) (by omega) (fun _ => ?_) (fun h => absurd h (by omega))
    refine hQ M x A _ h (fx.rf _ _) (fa.rf _ _) ?_
    rw [List.drop_eq_nil_of_le (by omega), List.append_nil]
    exact hn
  | succ m ih =>
    intro i M x A out h hS hn hm hi hQ
    obtain ⟨a1, a2, a3⟩ := hS b hb
    refine mg_run 2 rfl ?_
    refine mg_get rfl rfl h.2.1 rfl ?_
    refine mg_run 1 rfl ?_
    refine mr_ild 2 rfl h (by decide) (show b < 12 from hb) ?_
    rw [a2]
    refine mg_ge rfl (by omega) (by omega) (fun h => absurd h (by omega)) (fun hlt => ?_)
    refine mg_run 2 rfl ?_
    refine mg_get rfl rfl h.2.1 rfl ?_
    refine mg_run 2 rfl ?_
    refine mg_mulN rfl ?_
    refine mg_run 1 rfl ?_
    refine mg_addN rfl ?_
    refine mr_ild 1 rfl h (by decide) (show 2000 * b + i < 24000 by omega) ?_
    rw [a3 i hlt]
    refine mg_callV [.int (xc ((sl b).getD i 0))] rfl rfl rfl h.2.1 rfl rfl rfl rfl (c_Mo_put h hn (fun M2 x2 A2 p1 p2 p3 p4 => ?_))
    refine mg_incN rfl rfl rfl ?_
    refine mg_run 1 rfl ?_
    refine ih (i + 1) M2 x2 A2 _ p1 (hS.fr p3 (by decide) (by decide)) p4 (by omega) (by omega) (fun M' x' A' i' q1 q2 q3 q4 => hQ M' x' A' i' q1 (p2.tr q2) (p3.tr q3) ?_)
    rw [te_drop hlt, ← List.singleton_append, ← List.append_assoc]
    exact q4
theorem c_Mo_applyE (h : md_is M0 M sl tp pl o th) {a b c : Nat} (ha : a < 12) (hb : b < 12) (hc : c < 12) (hn : (sl a).length = 0 ∨ (sl b).length = 0 ∨ 2000 < ([64] ++ sl a ++ sl b).length)
    (hQ : ∀ M', md_is M0 M' sl tp pl o 2 → Q (.inl (some (.int (nI 0)))) M') : mm_Ct l sc Y_Mo_apply M [.ref 54, .int (nI a), .int (nI b), .int (nI c)] Q := by
  have h9 := h
  obtain ⟨x, A, h1, h2, h3, h4, h5, h6⟩ := h
  obtain ⟨a1, a2, a3⟩ := h2 a ha
  obtain ⟨b1, b2, b3⟩ := h2 b hb
  have ol : ([64] ++ sl a ++ sl b).length = 1 + (sl a).length + (sl b).length := by simp; omega
  refine mm_by k_Mo_apply w_Mo_apply rfl rfl ?_
  refine mg_run 1 rfl ?_
  refine mg_callS [.int (nI a)] rfl rfl rfl rfl rfl rfl (c_Mo_isSlot (fun _ => ?_) (fun e => absurd e (no_nI ha)))
  refine mg_zeq rfl (by decide) (fun h => absurd h (by decide)) (fun _ => ?_)
  refine mg_run 1 rfl ?_
  refine mg_callS [.int (nI b)] rfl rfl rfl rfl rfl rfl (c_Mo_isSlot (fun _ => ?_) (fun e => absurd e (no_nI hb)))
  refine mg_zeq rfl (by decide) (fun h => absurd h (by decide)) (fun _ => ?_)
  refine mg_run 1 rfl ?_
  refine mg_callS [.int (nI c)] rfl rfl rfl rfl rfl rfl (c_Mo_isSlot (fun _ => ?_) (fun e => absurd e (no_nI hc)))
  refine mg_zne rfl (by decide) (fun _ => ?_) (fun h => absurd h (by decide))
  refine mg_run 5 rfl ?_
  refine mg_zne (a := 0) rfl (by decide) (fun h => absurd h (by decide)) (fun _ => ?_)
  refine mg_run 1 rfl ?_
  refine mg_get rfl rfl h1.2.1 rfl ?_
  refine mg_run 1 rfl ?_
  refine mr_ild 2 rfl h1 (by decide) (show a < 12 from ha) ?_
  rw [a2]
  refine mg_zeq rfl (by omega) (fun _ => ?_) (fun c1 => ?_)
  · exact lp_Mo_applyE h9 hQ
  · refine mg_run 1 rfl ?_
    refine mg_get rfl rfl h1.2.1 rfl ?_
    refine mg_run 1 rfl ?_
    refine mr_ild 2 rfl h1 (by decide) (show b < 12 from hb) ?_
    rw [b2]
    refine mg_zeq rfl (by omega) (fun _ => ?_) (fun c2 => ?_)
    · exact lp_Mo_applyE h9 hQ
    · refine mg_run 2 rfl ?_
      refine mg_get rfl rfl h1.2.1 rfl ?_
      refine mg_run 1 rfl ?_
      refine mr_ild 2 rfl h1 (by decide) (show a < 12 from ha) ?_
      rw [a2]
      refine mg_addN rfl ?_
      refine mg_run 1 rfl ?_
      refine mg_get rfl rfl h1.2.1 rfl ?_
      refine mg_run 1 rfl ?_
      refine mr_ild 2 rfl h1 (by decide) (show b < 12 from hb) ?_
      rw [b2]
      refine mg_addN rfl ?_
      refine mg_run 1 rfl ?_
      refine mg_le rfl (by omega) (by decide) (fun h => absurd h (by omega)) (fun _ => ?_)
      exact lp_Mo_applyE h9 hQ
theorem c_Mo_apply (h : md_is M0 M sl tp pl o th) {a b c : Nat} (ha : a < 12) (hb : b < 12) (hc : c < 12) (hna : 0 < (sl a).length) (hnb : 0 < (sl b).length) (hl9 : ([64] ++ sl a ++ sl b).length ≤ 2000)
    (hQ : ∀ M', md_is M0 M' (sl_up sl c ([64] ++ sl a ++ sl b)) tp pl o 0 → Q (.inl (some (.int (nI ([64] ++ sl a ++ sl b).length)))) M') : mm_Ct l sc Y_Mo_apply M [.ref 54, .int (nI a), .int (nI b), .int (nI c)] Q := by
  obtain ⟨x, A, h1, h2, h3, h4, h5, h6⟩ := h
  obtain ⟨a1, a2, a3⟩ := h2 a ha
  obtain ⟨b1, b2, b3⟩ := h2 b hb
  have ol : ([64] ++ sl a ++ sl b).length = 1 + (sl a).length + (sl b).length := by simp; omega
  refine mm_by k_Mo_apply w_Mo_apply rfl rfl ?_
  refine mg_run 1 rfl ?_
  refine mg_callS [.int (nI a)] rfl rfl rfl rfl rfl rfl (c_Mo_isSlot (fun _ => ?_) (fun e => absurd e (no_nI ha)))
  refine mg_zeq rfl (by decide) (fun h => absurd h (by decide)) (fun _ => ?_)
  refine mg_run 1 rfl ?_
  refine mg_callS [.int (nI b)] rfl rfl rfl rfl rfl rfl (c_Mo_isSlot (fun _ => ?_) (fun e => absurd e (no_nI hb)))
  refine mg_zeq rfl (by decide) (fun h => absurd h (by decide)) (fun _ => ?_)
  refine mg_run 1 rfl ?_
  refine mg_callS [.int (nI c)] rfl rfl rfl rfl rfl rfl (c_Mo_isSlot (fun _ => ?_) (fun e => absurd e (no_nI hc)))
  refine mg_zne rfl (by decide) (fun _ => ?_) (fun h => absurd h (by decide))
  refine mg_run 5 rfl ?_
  refine mg_zne (a := 0) rfl (by decide) (fun h => absurd h (by decide)) (fun _ => ?_)
  refine mg_run 1 rfl ?_
  refine mg_get rfl rfl h1.2.1 rfl ?_
  refine mg_run 1 rfl ?_
  refine mr_ild 2 rfl h1 (by decide) (show a < 12 from ha) ?_
  rw [a2]
  refine mg_zeq rfl (by omega) (fun h => absurd h (by omega)) (fun _ => ?_)
  refine mg_run 1 rfl ?_
  refine mg_get rfl rfl h1.2.1 rfl ?_
  refine mg_run 1 rfl ?_
  refine mr_ild 2 rfl h1 (by decide) (show b < 12 from hb) ?_
  rw [b2]
  refine mg_zeq rfl (by omega) (fun h => absurd h (by omega)) (fun _ => ?_)
  refine mg_run 2 rfl ?_
  refine mg_get rfl rfl h1.2.1 rfl ?_
  refine mg_run 1 rfl ?_
  refine mr_ild 2 rfl h1 (by decide) (show a < 12 from ha) ?_
  rw [a2]
  refine mg_addN rfl ?_
  refine mg_run 1 rfl ?_
  refine mg_get rfl rfl h1.2.1 rfl ?_
  refine mg_run 1 rfl ?_
  refine mr_ild 2 rfl h1 (by decide) (show b < 12 from hb) ?_
  rw [b2]
  refine mg_addN rfl ?_
  refine mg_run 1 rfl ?_
  refine mg_le rfl (by omega) (by decide) (fun _ => ?_) (fun h => absurd h (by omega))
  refine mg_run 1 rfl ?_
  refine mg_callV [.int (nI 0), .int (nI 0)] rfl rfl rfl h1.2.1 rfl rfl rfl rfl (c_Mo_throwing h1 (a := 0) (b := 0) (by decide) (by decide) (fun _ _ M1 q1 => ?_) (fun h => absurd h (by decide)) (fun _ h => absurd h (by decide)))
  refine mg_zeq rfl (by decide) (fun _ => ?_) (fun h => absurd h (by decide))
  refine mg_run 1 rfl ?_
  refine mg_callV [] rfl rfl rfl q1.2.1 rfl rfl rfl rfl (c_Mo_begin q1 (fun M2 x2 q2 f2 n2 => ?_))
  refine mg_run 2 rfl ?_
  refine mg_callV [.int (xc 64)] rfl rfl rfl q2.2.1 rfl rfl rfl rfl (c_Mo_put q2 n2 (fun M3 x3 A3 q3 f3 g3 n3 => ?_))
  refine mg_run 2 rfl ?_
  have S3 : st_is A3 sl := h2.fr g3 (by decide) (by decide)
  refine lp_Mo_apply1 ha _ 0 M3 x3 A3 _ q3 S3 n3 rfl (Nat.zero_le _) (fun M4 x4 A4 i4 q4 f4 g4 n4 => ?_)
  refine mg_run 2 rfl ?_
  have S4 : st_is A4 sl := S3.fr g4 (by decide) (by decide)
  refine lp_Mo_apply2 hb _ 0 M4 x4 A4 _ q4 S4 n4 rfl (Nat.zero_le _) (fun M5 x5 A5 i5 q5 f5 g5 n5 => ?_)
  rw [List.nil_append, List.drop_zero, List.drop_zero] at n5
  have S5 : st_is A5 sl := S4.fr g5 (by decide) (by decide)
  refine mg_run 1 rfl ?_
  refine mg_callV [] rfl rfl rfl q5.2.1 rfl rfl rfl rfl (c_Mo_settle q5 n5 hl9 (fun M6 x6 A6 q6 f6 g6 r6 => ?_))
  refine mg_run 2 rfl ?_
  have S6 : st_is A6 sl := S5.fr g6 (by decide) (by decide)
  refine mg_callV [.int (nI c)] rfl rfl rfl q6.2.1 rfl rfl rfl rfl (c_Mo_store hc q6 r6 S6 (fun M7 A7 q7 g7 S7 => ?_))
  refine mg_run 1 rfl ?_
  refine mg_get rfl rfl q7.2.1 rfl ?_
  rw [r6.1]
  refine mg_ir rfl rfl rfl rfl (hQ M7 ?_)
  have F : fx [0, 8, 10, 11] x x6 := ((((fx.up (by decide) _ _).tr (f2.wk (by decide))).tr (f3.wk (by decide))).tr (f4.wk (by decide))).tr ((f5.wk (by decide)).tr (f6.wk (by decide)))
  have G : fa [1, 2, 3, 4] A A7 := (((g3.wk (by decide)).tr (g4.wk (by decide))).tr (g5.wk (by decide))).tr ((g6.wk (by decide)).tr (g7.wk (by decide)))
  have e0 : x6 0 = nI 0 := by rw [f6 0 (by decide), f5 0 (by decide), f4 0 (by decide), f3 0 (by decide), f2 0 (by decide), pk_us]
  exact md_fr h3 h4 q7 S7 F G (by decide) (by decide) (by decide) ((F 4 (by decide)).trans h5) e0
end
