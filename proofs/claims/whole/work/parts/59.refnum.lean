/-! The reference: numeral. -/
theorem te_nq_len (r : List Nat) : (te_nq r).length = r.length + 4 := by
  show ([64] ++ [64] ++ r ++ [1] ++ [2]).length = r.length + 4
  simp
theorem xc_1 {c : Nat} (h : c < 10000) : xc c = nI 10000 ↔ c = 1 := xc_inj (b := 1) h (by decide)
theorem xc_2 {c : Nat} (h : c < 10000) : xc c = nI 10001 ↔ c = 2 := xc_inj (b := 2) h (by decide)
section
variable {l : Launch} {sc : Nat × (Nat → Int32)} {M0 M : mm_M} {Q : mm_O → mm_M → Prop} {sl : Nat → List Nat} {tp : List Nat} {pl : Int32} {o th : Nat} {r : List Nat} {x : Nat → Int32} {A : Nat → Nat → Int32}
theorem lp_Mo_numT (h : mo_is M0 M x A) (hR : ro_is x A r) (hv : ∀ i, r.getD i 0 < 10000) {x1 x2 : Option Value} {y3 : Int32} {i k : Nat} (hk : k = 2 * i) (hi : k < r.length) (hs : te_sc (r.drop k) 1 = r.length - k) (hno : ¬ (r.getD k 0 = 64 ∧ r.getD (k + 1) 0 = 1)) (hQ : Q (.inl (some (.int (te_fv (te_ta r (r.length / 2 - i) i))))) M) : mm_Go l sc Y_Mo_numeral2 0 0 M [some (.ref 54), x1, x2, some (.int y3), some (.int (nI k))] [] 184 Q := by
  have h4 := hR.2.1
  have hvi := hv k
  refine mg_run 1 rfl ?_
  refine mg_get rfl rfl h.2.1 rfl ?_
  refine mg_run 1 rfl ?_
  refine mr_ild 3 rfl h (by decide) (show k < 2001 by omega) ?_
  rw [hR.2.2 k hi]
  refine mg_run 1 rfl ?_
  refine mg_icmp rfl (fun e => ?_) (fun e => ?_)
  · have c1 : ¬ r.getD k 0 = 2 := fun h9 => e ((xc_2 hvi).mpr h9)
    refine mg_run 1 rfl ?_
    have ev : te_ta r (r.length / 2 - i) i = none := by
      subst hk
      generalize r.length / 2 - i = m
      cases m with
      | zero => rw [te_ta, if_neg c1]
      | succ m => rw [te_ta, if_neg hno]
    rw [ev] at hQ
    exact mg_ir rfl rfl rfl rfl hQ
  · have c1 : r.getD k 0 = 2 := (xc_2 hvi).mp (Decidable.not_not.mp e)
    refine mg_run 2 rfl ?_
    refine mg_idiv rfl (by decide) ?_
    rw [pk_div (by omega) (by decide) (by decide)]
    refine mg_run 1 rfl ?_
    have e1 := en_leaf hi (by omega) (by omega)
    unfold te_en at e1
    have e2 : r.length / 2 - i = 0 := by omega
    have e3 : k / 2 = i := by omega
    rw [e2, te_ta, if_pos (by rw [← hk]; exact c1)] at hQ
    rw [e3]
    exact mg_ir rfl rfl rfl rfl hQ
theorem lp_Mo_numK (h : mo_is M0 M x A) (hR : ro_is x A r) (hv : ∀ i, r.getD i 0 < 10000) (hcl : cl r) {x1 x2 : Option Value} {y3 : Int32} : ∀ m i k, k = 2 * i → r.length - k ≤ m → k < r.length → te_sc (r.drop k) 1 = r.length - k → Q (.inl (some (.int (te_fv (te_ta r (r.length / 2 - i) i))))) M → mm_Go l sc Y_Mo_numeral2 0 0 M [some (.ref 54), x1, x2, some (.int y3), some (.int (nI k))] [] 152 Q := by
  have h4 := hR.2.1
  intro m
  induction m with
  | zero =>
    intro i k hk hm hi hs hQ
    exact absurd hm (by omega)
  | succ m ih =>
    intro i k hk hm hi hs hQ
    have hvi := hv k
    have hvj := hv (k + 1)
    refine mg_run 1 rfl ?_
    refine mg_get rfl rfl h.2.1 rfl ?_
    refine mg_run 1 rfl ?_
    refine mr_ild 3 rfl h (by decide) (show k < 2001 by omega) ?_
    rw [hR.2.2 k hi]
    refine mg_run 1 rfl ?_
    refine mg_icmp rfl (fun e => ?_) (fun e => ?_)
    · have c1 : ¬ r.getD k 0 = 64 := fun h9 => e ((xc_64 hvi).mpr h9)
      exact lp_Mo_numT h hR hv hk hi hs (fun h9 => c1 h9.1) hQ
    · have c1 : r.getD k 0 = 64 := (xc_64 hvi).mp (Decidable.not_not.mp e)
      have c3 := (cl_app2 hcl hi c1).1
      refine mg_run 1 rfl ?_
      refine mg_get rfl rfl h.2.1 rfl ?_
      refine mg_run 2 rfl ?_
      refine mg_addN rfl ?_
      refine mr_ild 3 rfl h (by decide) (show k + 1 < 2001 by omega) ?_
      rw [hR.2.2 (k + 1) (by omega)]
      refine mg_run 1 rfl ?_
      refine mg_icmp rfl (fun e => ?_) (fun e => ?_)
      · have c2 : ¬ r.getD (k + 1) 0 = 1 := fun h9 => e ((xc_1 hvj).mpr h9)
        exact lp_Mo_numT h hR hv hk hi hs (fun h9 => c2 h9.2) hQ
      · have c2 : r.getD (k + 1) 0 = 1 := (xc_1 hvj).mp (Decidable.not_not.mp e)
        refine mg_incN rfl rfl rfl ?_
        refine mg_run 1 rfl ?_
        have e1 := en_app hi c1
        rw [en_leaf (i := k + 1) (by omega) (by omega) (by omega)] at e1
        unfold te_en at e1
        have e1 : k + te_sc (r.drop k) 1 = (k + 2) + te_sc (r.drop (k + 2)) 1 := e1
        have e2 : r.length / 2 - i = (r.length / 2 - (i + 1)) + 1 := by omega
        have c4 : r.getD (2 * i) 0 = 64 ∧ r.getD (2 * i + 1) 0 = 1 := by rw [← hk]; exact ⟨c1, c2⟩
        rw [e2, te_ta, if_pos c4] at hQ
        exact ih (i + 1) (k + 2) (by omega) (by omega) c3 (by omega) hQ
theorem lp_Mo_num1 {x1 x2 : Option Value} {y3 : Int32} : ∀ m k (M : mm_M) (x : Nat → Int32) (A : Nat → Nat → Int32) (out : List Nat), mo_is M0 M x A → ro_is x A r → nx_is x A out → r.length - k = m → k ≤ r.length →
    (∀ M' x' A' x4, mo_is M0 M' x' A' → fx [10, 11] x x' → fa [4] A A' → nx_is x' A' (out ++ r.drop k) → mm_Go l sc Y_Mo_numeral2 0 0 M' [some (.ref 54), x1, x2, some (.int y3), x4] [] 114 Q) →
    mm_Go l sc Y_Mo_numeral2 0 0 M [some (.ref 54), x1, x2, some (.int y3), some (.int (nI k))] [] 88 Q := by
  intro m
  induction m with
  | zero =>
    intro k M x A out h hR hn hm hk hQ
    have h4 := hR.2.1
    refine mg_run 2 rfl ?_
    refine mg_get rfl rfl h.2.1 rfl ?_
    rw [hR.1]
    refine mg_ge rfl (by omega) (by omega) (fun _ => ?_) (fun h => absurd h (by omega))
    refine hQ M x A _ h (fx.rf _ _) (fa.rf _ _) ?_
    rw [List.drop_eq_nil_of_le (by omega), List.append_nil]
    exact hn
  | succ m ih =>
    intro k M x A out h hR hn hm hk hQ
    have h4 := hR.2.1
    refine mg_run 2 rfl ?_
    refine mg_get rfl rfl h.2.1 rfl ?_
    rw [hR.1]
    refine mg_ge rfl (by omega) (by omega) (fun h => absurd h (by omega)) (fun hlt => ?_)
    refine mg_run 2 rfl ?_
    refine mg_get rfl rfl h.2.1 rfl ?_
    refine mg_run 1 rfl ?_
    refine mr_ild 3 rfl h (by decide) (show k < 2001 by omega) ?_
    rw [hR.2.2 k hlt]
    refine mg_callV [.int (xc (r.getD k 0))] rfl rfl rfl h.2.1 rfl rfl rfl rfl (c_Mo_put h hn (fun M2 x2 A2 p1 p2 p3 p4 => ?_))
    refine mg_incN rfl rfl rfl ?_
    refine mg_run 1 rfl ?_
    refine ih (k + 1) M2 x2 A2 _ p1 (hR.fr p2 p3 (by decide) (by decide)) p4 (by omega) (by omega) (fun M' x' A' x4 q1 q2 q3 q4 => hQ M' x' A' x4 q1 (p2.tr q2) (p3.tr q3) ?_)
    rw [te_drop hlt, ← List.singleton_append, ← List.append_assoc]
    exact q4
theorem c_Mo_numeral2 (P : List Nat → Prop) (hP1 : ∀ r, P r → (∀ i, r.getD i 0 < 10000) ∧ (∀ i, i < r.length → ¬ r.getD i 0 = 0) ∧ cl r) (hP2 : ∀ r i, P r → te_fr r r.length 0 = some i → (te_step r i).length ≤ 2000 → P (te_step r i)) (hP3 : ∀ r, P r → te_nd r 1 = 0 ∧ te_sc r 1 = r.length) (h : md_is M0 M sl tp pl o th) {a N : Nat} (ha : a < 12) (hN1 : 1 ≤ N) (hN2 : N ≤ 400) (hn : 0 < (sl a).length) (hP : P (te_nq (sl a))) (hl9 : (te_nq (sl a)).length ≤ 2000)
    (hQ : ∀ M', md_is M0 M' sl tp pl (te_rn N (te_nq (sl a))).2.2 0 → Q (.inl (some (.int (te_nr N (sl a))))) M') : mm_Ct l sc Y_Mo_numeral2 M [.ref 54, .int (nI a), .int (nI N)] Q := by
  obtain ⟨x, A, h1, h2, h3, h4, h5, h6⟩ := h
  obtain ⟨a1, a2, a3⟩ := h2 a ha
  have ol := te_nq_len (sl a)
  have eN : (nI N).toInt = N := nI_toInt (by omega)
  have e1 : (nI 1).toInt = 1 := by decide
  have e4 : (nI 400).toInt = 400 := by decide
  refine mm_by k_Mo_numeral2 w_Mo_numeral2 rfl rfl ?_
  refine mg_run 1 rfl ?_
  refine mg_callS [.int (nI a)] rfl rfl rfl rfl rfl rfl (c_Mo_isSlot (fun _ => ?_) (fun e => absurd e (no_nI ha)))
  refine mg_zeq rfl (by decide) (fun h => absurd h (by decide)) (fun _ => ?_)
  refine mg_run 3 rfl ?_
  refine mg_callS [.int (nI N), .int (nI 1), .int (nI 400)] rfl rfl rfl rfl rfl rfl (c_Mo_in (fun _ _ => ?_) (fun e => absurd e (by omega)))
  refine mg_zne rfl (by decide) (fun _ => ?_) (fun h => absurd h (by decide))
  refine mg_run 5 rfl ?_
  refine mg_zne (a := 0) rfl (by decide) (fun h => absurd h (by decide)) (fun _ => ?_)
  refine mg_run 1 rfl ?_
  refine mg_get rfl rfl h1.2.1 rfl ?_
  refine mg_run 1 rfl ?_
  refine mr_ild 2 rfl h1 (by decide) (show a < 12 from ha) ?_
  rw [a2]
  refine mg_zeq rfl (by omega) (fun h => absurd h (by omega)) (fun _ => ?_)
  refine mg_run 1 rfl ?_
  refine mg_get rfl rfl h1.2.1 rfl ?_
  refine mg_run 1 rfl ?_
  refine mr_ild 2 rfl h1 (by decide) (show a < 12 from ha) ?_
  rw [a2]
  refine mg_run 1 rfl ?_
  refine mg_addN rfl ?_
  refine mg_run 1 rfl ?_
  refine mg_le rfl (by omega) (by decide) (fun _ => ?_) (fun h => absurd h (by omega))
  refine mg_run 1 rfl ?_
  refine mg_callV [.int (nI 0), .int (nI 0)] rfl rfl rfl h1.2.1 rfl rfl rfl rfl (c_Mo_throwing h1 (a := 0) (b := 0) (by decide) (by decide) (fun _ _ M1 q1 => ?_) (fun h => absurd h (by decide)) (fun _ h => absurd h (by decide)))
  refine mg_zeq rfl (by decide) (fun _ => ?_) (fun h => absurd h (by decide))
  refine mg_run 2 rfl ?_
  refine mg_callV [.int (nI a)] rfl rfl rfl q1.2.1 rfl rfl rfl rfl (c_Mo_load ha q1 h2 (fun M2 x2 A2 q2 f2 g2 r2 => ?_))
  refine mg_run 1 rfl ?_
  refine mg_callV [] rfl rfl rfl q2.2.1 rfl rfl rfl rfl (c_Mo_begin q2 (fun M3 x3 q3 f3 n3 => ?_))
  refine mg_run 2 rfl ?_
  refine mg_callV [.int (xc 64)] rfl rfl rfl q3.2.1 rfl rfl rfl rfl (c_Mo_put q3 n3 (fun M4 x4 A4 q4 f4 g4 n4 => ?_))
  refine mg_run 2 rfl ?_
  refine mg_callV [.int (xc 64)] rfl rfl rfl q4.2.1 rfl rfl rfl rfl (c_Mo_put q4 n4 (fun M5 x5 A5 q5 f5 g5 n5 => ?_))
  refine mg_run 2 rfl ?_
  have R5 : ro_is x5 A5 (sl a) := ((r2.fr f3 (fa.rf [] A2) (by decide) (by decide)).fr f4 g4 (by decide) (by decide)).fr f5 g5 (by decide) (by decide)
  refine lp_Mo_num1 _ 0 M5 x5 A5 _ q5 R5 n5 rfl (Nat.zero_le _) (fun M6 x6 A6 y4 q6 f6 g6 n6 => ?_)
  refine mg_run 2 rfl ?_
  refine mg_callV [.int (xc 1)] rfl rfl rfl q6.2.1 rfl rfl rfl rfl (c_Mo_put q6 n6 (fun M7 x7 A7 q7 f7 g7 n7 => ?_))
  refine mg_run 2 rfl ?_
  refine mg_callV [.int (xc 2)] rfl rfl rfl q7.2.1 rfl rfl rfl rfl (c_Mo_put q7 n7 (fun M8 x8 A8 q8 f8 g8 n8 => ?_))
  rw [List.nil_append, List.drop_zero] at n8
  have n8 : nx_is x8 A8 (te_nq (sl a)) := n8
  refine mg_run 1 rfl ?_
  refine mg_callV [] rfl rfl rfl q8.2.1 rfl rfl rfl rfl (c_Mo_settle q8 n8 hl9 (fun M9 x9 A9 q9 f9 g9 r9 => ?_))
  refine mg_run 2 rfl ?_
  refine mg_callV [.int (nI N)] rfl rfl rfl q9.2.1 rfl rfl rfl rfl (c_Mo_steps P hP1 hP2 (by omega) hP q9 r9 (fun M3 q => ?_))
  obtain ⟨xa, Aa, c1, c2, c3, c4, c5⟩ := q
  have ho := te_rn_o N (te_nq (sl a))
  have F : fx [0, 4, 8, 10, 11] x xa := ((((((fx.up (by decide) _ _).tr (f2.wk (by decide))).tr (f3.wk (by decide))).tr (f4.wk (by decide))).tr ((f5.wk (by decide)).tr (f6.wk (by decide)))).tr ((f7.wk (by decide)).tr (f8.wk (by decide)))).tr ((f9.wk (by decide)).tr (c2.wk (by decide)))
  have G : fa [3, 4, 5, 6] A Aa := ((((g2.wk (by decide)).tr (g4.wk (by decide))).tr ((g5.wk (by decide)).tr (g6.wk (by decide)))).tr ((g7.wk (by decide)).tr (g8.wk (by decide)))).tr ((g9.wk (by decide)).tr (c3.wk (by decide)))
  have e0 : xa 0 = nI 0 := by rw [c2 0 (by decide), f9 0 (by decide), f8 0 (by decide), f7 0 (by decide), f6 0 (by decide), f5 0 (by decide), f4 0 (by decide), f3 0 (by decide), f2 0 (by decide), pk_us]
  have hQ1 := hQ M3 (md_fr h3 h4 c1 (h2.fr G (by decide) (by decide)) F G (by decide) (by decide) (by decide) c5 e0)
  refine mg_run 2 rfl ?_
  refine mg_get rfl rfl c1.2.1 rfl ?_
  rw [c5]
  refine mg_run 1 rfl ?_
  refine mg_eq rfl (by omega) (by decide) (fun e => ?_) (fun e => ?_)
  · refine mg_run 2 rfl ?_
    have hP9 := te_rn_P P hP2 N _ hP
    obtain ⟨p1, p2, p3⟩ := hP1 _ hP9
    obtain ⟨p4, p5⟩ := hP3 _ hP9
    have p6 := te_nd_le _ _ p4
    unfold te_nr at hQ1
    rw [if_pos e] at hQ1
    exact lp_Mo_numK c1 c4 p1 p3 _ 0 0 rfl (Nat.le_refl _) (by omega) (by rw [List.drop_zero]; omega) hQ1
  · refine mg_run 1 rfl ?_
    unfold te_nr at hQ1
    rw [if_neg e] at hQ1
    exact mg_ir rfl rfl rfl rfl hQ1
theorem lp_Mo_numX (h : md_is M0 M sl tp pl o th) {z y : Int32} {x3 x4 : Option Value} (hQ : ∀ M', md_is M0 M' sl tp pl o 1 → Q (.inl (some (.int (nI 0)))) M') : mm_Go l sc Y_Mo_numeral2 0 0 M [some (.ref 54), some (.int z), some (.int y), x3, x4] [.int (nI 1)] 23 Q := by
  obtain ⟨x, A, h1, h2, h3, h4, h5, h6⟩ := h
  refine mg_run 4 rfl ?_
  refine mg_zne (a := 1) rfl (by decide) (fun _ => ?_) (fun h => absurd h (by decide))
  refine mg_run 1 rfl ?_
  refine mg_callV [.int (nI 1), .int (nI 0)] rfl rfl rfl h1.2.1 rfl rfl rfl rfl (c_Mo_throwing h1 (a := 1) (b := 0) (by decide) (by decide) (fun h => absurd h (by decide)) (fun _ M1 q1 => ?_) (fun h => absurd h (by decide)))
  refine mg_zeq rfl (by decide) (fun h => absurd h (by decide)) (fun _ => ?_)
  refine mg_run 1 rfl ?_
  exact mg_ir rfl rfl rfl rfl (hQ M1 (md_th h2 h3 h4 h5 q1))
theorem c_Mo_numeral2X (h : md_is M0 M sl tp pl o th) {z y : Int32} (hx : no_slot z ∨ no_steps y) (hQ : ∀ M', md_is M0 M' sl tp pl o 1 → Q (.inl (some (.int (nI 0)))) M') : mm_Ct l sc Y_Mo_numeral2 M [.ref 54, .int z, .int y] Q := by
  have e1 : (nI 1).toInt = 1 := by decide
  have e4 : (nI 400).toInt = 400 := by decide
  refine mm_by k_Mo_numeral2 w_Mo_numeral2 rfl rfl ?_
  refine mg_run 1 rfl ?_
  refine mg_callS [.int z] rfl rfl rfl rfl rfl rfl (c_Mo_isSlot (fun e => ?_) (fun _ => ?_))
  · refine mg_zeq rfl (by decide) (fun h => absurd h (by decide)) (fun _ => ?_)
    refine mg_run 3 rfl ?_
    have hy : no_steps y := hx.elim (fun h9 => absurd h9 e) id
    refine mg_callS [.int y, .int (nI 1), .int (nI 400)] rfl rfl rfl rfl rfl rfl (c_Mo_in (fun _ _ => ?_) (fun _ => ?_))
    · exfalso
      unfold no_steps at hy
      omega
    · refine mg_zne rfl (by decide) (fun h => absurd h (by decide)) (fun _ => ?_)
      refine mg_run 2 rfl ?_
      exact lp_Mo_numX h hQ
  · refine mg_zeq rfl (by decide) (fun _ => ?_) (fun h => absurd h (by decide))
    refine mg_run 2 rfl ?_
    exact lp_Mo_numX h hQ
theorem lp_Mo_numE (h : md_is M0 M sl tp pl o th) {z y : Int32} {x3 x4 : Option Value} (hQ : ∀ M', md_is M0 M' sl tp pl o 2 → Q (.inl (some (.int (nI 0)))) M') : mm_Go l sc Y_Mo_numeral2 0 0 M [some (.ref 54), some (.int z), some (.int y), x3, x4] [.int (nI 0), .ref 54] 53 Q := by
  obtain ⟨x, A, h1, h2, h3, h4, h5, h6⟩ := h
  refine mg_run 2 rfl ?_
  refine mg_callV [.int (nI 0), .int (nI 1)] rfl rfl rfl h1.2.1 rfl rfl rfl rfl (c_Mo_throwing h1 (a := 0) (b := 1) (by decide) (by decide) (fun _ h => absurd h (by decide)) (fun h => absurd h (by decide)) (fun _ _ M1 q1 => ?_))
  refine mg_zeq rfl (by decide) (fun h => absurd h (by decide)) (fun _ => ?_)
  refine mg_run 1 rfl ?_
  exact mg_ir rfl rfl rfl rfl (hQ M1 (md_th h2 h3 h4 h5 q1))
theorem c_Mo_numeral2E (h : md_is M0 M sl tp pl o th) {a N : Nat} (ha : a < 12) (hN1 : 1 ≤ N) (hN2 : N ≤ 400) (hn : (sl a).length = 0 ∨ 2000 < (te_nq (sl a)).length)
    (hQ : ∀ M', md_is M0 M' sl tp pl o 2 → Q (.inl (some (.int (nI 0)))) M') : mm_Ct l sc Y_Mo_numeral2 M [.ref 54, .int (nI a), .int (nI N)] Q := by
  have h9 := h
  obtain ⟨x, A, h1, h2, h3, h4, h5, h6⟩ := h
  obtain ⟨a1, a2, a3⟩ := h2 a ha
  have ol := te_nq_len (sl a)
  have eN : (nI N).toInt = N := nI_toInt (by omega)
  have e1 : (nI 1).toInt = 1 := by decide
  have e4 : (nI 400).toInt = 400 := by decide
  refine mm_by k_Mo_numeral2 w_Mo_numeral2 rfl rfl ?_
  refine mg_run 1 rfl ?_
  refine mg_callS [.int (nI a)] rfl rfl rfl rfl rfl rfl (c_Mo_isSlot (fun _ => ?_) (fun e => absurd e (no_nI ha)))
  refine mg_zeq rfl (by decide) (fun h => absurd h (by decide)) (fun _ => ?_)
  refine mg_run 3 rfl ?_
  refine mg_callS [.int (nI N), .int (nI 1), .int (nI 400)] rfl rfl rfl rfl rfl rfl (c_Mo_in (fun _ _ => ?_) (fun e => absurd e (by omega)))
  refine mg_zne rfl (by decide) (fun _ => ?_) (fun h => absurd h (by decide))
  refine mg_run 5 rfl ?_
  refine mg_zne (a := 0) rfl (by decide) (fun h => absurd h (by decide)) (fun _ => ?_)
  refine mg_run 1 rfl ?_
  refine mg_get rfl rfl h1.2.1 rfl ?_
  refine mg_run 1 rfl ?_
  refine mr_ild 2 rfl h1 (by decide) (show a < 12 from ha) ?_
  rw [a2]
  refine mg_zeq rfl (by omega) (fun _ => ?_) (fun c1 => ?_)
  · exact lp_Mo_numE h9 hQ
  · refine mg_run 1 rfl ?_
    refine mg_get rfl rfl h1.2.1 rfl ?_
    refine mg_run 1 rfl ?_
    refine mr_ild 2 rfl h1 (by decide) (show a < 12 from ha) ?_
    rw [a2]
    refine mg_run 1 rfl ?_
    refine mg_addN rfl ?_
    refine mg_run 1 rfl ?_
    refine mg_le rfl (by omega) (by decide) (fun h => absurd h (by omega)) (fun _ => ?_)
    exact lp_Mo_numE h9 hQ
end
