/-! The bench: apply, bind, reduce, abstracted. -/
section
variable {l : Launch} {sc : Nat × (Nat → Int32)} {M : mm_M} {Q : mm_O → mm_M → Prop} {sl : Nat → List Nat} {tp : List Nat} {pl : Int32} {o : Nat}
theorem no_nI {s : Nat} (hs : s < 12) : ¬ no_slot (nI s) := by
  unfold no_slot
  rw [nI_toInt (by omega)]
  omega
theorem c_LB_apply (hl : l.stackTraces = false) (h : lb_is M sl tp pl o) {a b c : Nat} (ha : a < 12) (hb : b < 12) (hc : c < 12) (hna : 0 < (sl a).length) (hnb : 0 < (sl b).length)
    (hQ : ([64] ++ sl a ++ sl b).length ≤ 2000 → ∀ M', lb_is M' (sl_up sl c ([64] ++ sl a ++ sl b)) tp pl o → mm_on mm_bn M M' → Q (.inl (some (.int (nI ([64] ++ sl a ++ sl b).length)))) M')
    (hN : 2000 < ([64] ++ sl a ++ sl b).length → ∀ M', lb_is M' sl tp pl o → mm_on mm_bn M M' → Q (.inr 1) M') : mm_Ct l sc Y_LB_apply M [.ref 0, .int (nI a), .int (nI b), .int (nI c)] Q := by
  obtain ⟨ga, hga⟩ := h.2.1 a ha
  obtain ⟨gb, hgb⟩ := h.2.1 b hb
  obtain ⟨gc, hgc⟩ := h.2.1 c hc
  obtain ⟨rw0, gw0, hw0⟩ := h.2.2.1
  obtain ⟨fw, w1, -⟩ := id hw0
  refine mm_by k_LB_apply w_LB_apply rfl rfl ?_
  refine mg_run 2 rfl ?_
  refine mg_callV [.int (nI a)] rfl rfl rfl h.1.1 rfl rfl rfl rfl (c_LB_requireSlot ha ?_)
  refine mg_run 2 rfl ?_
  refine mg_callV [.int (nI b)] rfl rfl rfl h.1.1 rfl rfl rfl rfl (c_LB_requireSlot hb ?_)
  refine mg_run 2 rfl ?_
  refine mg_callV [.int (nI c)] rfl rfl rfl h.1.1 rfl rfl rfl rfl (c_LB_requireSlot hc ?_)
  refine mg_run 2 rfl ?_
  refine mg_callV [.int (nI a)] rfl rfl rfl h.1.1 rfl rfl rfl rfl (c_LB_requireTerm h ha hna ?_)
  refine mg_run 2 rfl ?_
  refine mg_callV [.int (nI b)] rfl rfl rfl h.1.1 rfl rfl rfl rfl (c_LB_requireTerm h hb hnb ?_)
  refine mg_run 1 rfl ?_
  refine mg_get rfl rfl h.1.1 rfl ?_
  refine mg_callV [] rfl rfl rfl w1 rfl rfl rfl rfl (c_Te_clear hw0 (fun M1 p1 p2 => ?_))
  have h1 := h.work ⟨_, _, p1⟩ p2.te
  obtain ⟨fw1, w2, -⟩ := id p1
  refine mg_run 1 rfl ?_
  refine mg_get rfl rfl h1.1.1 rfl ?_
  refine mg_run 1 rfl ?_
  refine mg_callV [.int (nI 64)] rfl rfl rfl w2 rfl rfl rfl rfl (c_Te_add p1 (fun M2 q1 q2 => ?_))
  have h2 := h1.work ⟨_, _, q1⟩ q2.te
  have u2 := wr0.add 64
  obtain ⟨fw2, w3, -⟩ := id q1
  have A2 := (hga.keep p2 (sl_w ha).1.1 (sl_w ha).1.2).keep q2 (sl_w ha).1.1 (sl_w ha).1.2
  have B2 := (hgb.keep p2 (sl_w hb).1.1 (sl_w hb).1.2).keep q2 (sl_w hb).1.1 (sl_w hb).1.2
  refine mg_run 1 rfl ?_
  refine mg_get rfl rfl h2.1.1 rfl ?_
  refine mg_run 1 rfl ?_
  refine mg_get rfl rfl h2.1.1 rfl ?_
  refine mg_run 1 rfl ?_
  refine mg_aldN rfl h2.1.2 (by decide) ha (lb_f12 ha) ?_
  refine mg_callV [.ref (2 + 2 * a)] rfl rfl rfl w3 rfl rfl rfl rfl (c_Te_addAll q1 A2 (sl_w ha).1 (fun M3 v1 v2 => ?_))
  have h3 := h2.work ⟨_, _, v1⟩ v2.te
  have u3 := u2.adds (sl a)
  obtain ⟨fw3, w4, -⟩ := id v1
  have B3 := B2.keep v2 (sl_w hb).1.1 (sl_w hb).1.2
  refine mg_run 1 rfl ?_
  refine mg_get rfl rfl h3.1.1 rfl ?_
  refine mg_run 1 rfl ?_
  refine mg_get rfl rfl h3.1.1 rfl ?_
  refine mg_run 1 rfl ?_
  refine mg_aldN rfl h3.1.2 (by decide) hb (lb_f12 hb) ?_
  refine mg_callV [.ref (2 + 2 * b)] rfl rfl rfl w4 rfl rfl rfl rfl (c_Te_addAll v1 B3 (sl_w hb).1 (fun M4 x1 x2 => ?_))
  have h4 := h3.work ⟨_, _, x1⟩ x2.te
  have u4 : wr _ ([64] ++ sl a ++ sl b) := u3.adds (sl b)
  obtain ⟨fw4, w5, -, -, -, gle⟩ := id x1
  have hon : mm_on mm_bn M M4 := (((p2.te.bn (by decide)).tr (q2.te.bn (by decide))).tr (v2.te.bn (by decide))).tr (x2.te.bn (by decide))
  refine mg_run 1 rfl ?_
  refine mg_get rfl rfl h4.1.1 rfl ?_
  refine mg_callV [] rfl rfl rfl w5 rfl rfl rfl rfl (c_Te_isTooGreat x1 ?_)
  refine mg_zeq rfl (by omega) (fun h0 => ?_) (fun h0 => ?_)
  · obtain ⟨e1, e2⟩ := u4.ok h0
    have x1' : te_is M4 26 ([64] ++ sl a ++ sl b) 0 := by
      have e3 := x1
      rw [show te_adds ((te_adds ((te_add ([], 0) 64).1, (te_add ([], 0) 64).2) (sl a)).1, (te_adds ((te_add ([], 0) 64).1, (te_add ([], 0) 64).2) (sl a)).2) (sl b) = ([64] ++ sl a ++ sl b, 0) from e2] at e3
      exact e3
    obtain ⟨gc4, hgc4⟩ := h4.2.1 c hc
    obtain ⟨fc, c1, -⟩ := id hgc4
    obtain ⟨fw5, w6, -⟩ := id x1'
    refine mg_run 1 rfl ?_
    refine mg_get rfl rfl h4.1.1 rfl ?_
    refine mg_run 1 rfl ?_
    refine mg_aldN rfl h4.1.2 (by decide) hc (lb_f12 hc) ?_
    refine mg_run 1 rfl ?_
    refine mg_get rfl rfl h4.1.1 rfl ?_
    refine mg_callV [.ref 26] rfl rfl rfl c1 rfl rfl rfl rfl (c_Te_become hgc4 x1' (sl_w hc).2 (fun M5 y1 y2 => ?_))
    have h5 := h4.slot hc y1 y2
    have W5 := x1'.keep y2 (sl_w hc).2.1 (sl_w hc).2.2
    obtain ⟨fw6, w7, -⟩ := id W5
    refine mg_run 1 rfl ?_
    refine mg_get rfl rfl h5.1.1 rfl ?_
    refine mg_callV [] rfl rfl rfl w7 rfl rfl rfl rfl (c_Te_length W5 ?_)
    refine mg_ir rfl rfl rfl rfl ?_
    exact hQ e1 M5 h5 (hon.tr (y2.te.bn (by omega)))
  · exact mg_throw mm_xs6 rfl rfl rfl rfl rfl rfl rfl hl (hN (u4.not h0) M4 h4 hon)
theorem c_LB_applyX (hl : l.stackTraces = false) (h : lb_is M sl tp pl o) {x y z : Int32} (hx : no_slot x ∨ no_slot y ∨ no_slot z) (hQ : Q (.inr 0) M) : mm_Ct l sc Y_LB_apply M [.ref 0, .int x, .int y, .int z] Q := by
  refine mm_by k_LB_apply w_LB_apply rfl rfl ?_
  refine mg_run 2 rfl ?_
  rcases slot_or x with h1 | ⟨a, ha, rfl⟩
  · exact mg_callV [.int x] rfl rfl rfl h.1.1 rfl rfl rfl rfl (c_LB_requireSlotX hl h1 hQ)
  · refine mg_callV [.int (nI a)] rfl rfl rfl h.1.1 rfl rfl rfl rfl (c_LB_requireSlot ha ?_)
    refine mg_run 2 rfl ?_
    rcases slot_or y with h2 | ⟨b, hb, rfl⟩
    · exact mg_callV [.int y] rfl rfl rfl h.1.1 rfl rfl rfl rfl (c_LB_requireSlotX hl h2 hQ)
    · refine mg_callV [.int (nI b)] rfl rfl rfl h.1.1 rfl rfl rfl rfl (c_LB_requireSlot hb ?_)
      refine mg_run 2 rfl ?_
      have h3 : no_slot z := by
        rcases hx with h9 | h9 | h9
        · exact absurd h9 (no_nI ha)
        · exact absurd h9 (no_nI hb)
        · exact h9
      exact mg_callV [.int z] rfl rfl rfl h.1.1 rfl rfl rfl rfl (c_LB_requireSlotX hl h3 hQ)
theorem c_LB_applyE (hl : l.stackTraces = false) (h : lb_is M sl tp pl o) {a b c : Nat} (ha : a < 12) (hb : b < 12) (hc : c < 12) (hn : (sl a).length = 0 ∨ (sl b).length = 0) (hQ : Q (.inr 1) M) : mm_Ct l sc Y_LB_apply M [.ref 0, .int (nI a), .int (nI b), .int (nI c)] Q := by
  refine mm_by k_LB_apply w_LB_apply rfl rfl ?_
  refine mg_run 2 rfl ?_
  refine mg_callV [.int (nI a)] rfl rfl rfl h.1.1 rfl rfl rfl rfl (c_LB_requireSlot ha ?_)
  refine mg_run 2 rfl ?_
  refine mg_callV [.int (nI b)] rfl rfl rfl h.1.1 rfl rfl rfl rfl (c_LB_requireSlot hb ?_)
  refine mg_run 2 rfl ?_
  refine mg_callV [.int (nI c)] rfl rfl rfl h.1.1 rfl rfl rfl rfl (c_LB_requireSlot hc ?_)
  refine mg_run 2 rfl ?_
  by_cases h0 : (sl a).length = 0
  · exact mg_callV [.int (nI a)] rfl rfl rfl h.1.1 rfl rfl rfl rfl (c_LB_requireTermX hl h ha h0 hQ)
  · refine mg_callV [.int (nI a)] rfl rfl rfl h.1.1 rfl rfl rfl rfl (c_LB_requireTerm h ha (by omega) ?_)
    refine mg_run 2 rfl ?_
    exact mg_callV [.int (nI b)] rfl rfl rfl h.1.1 rfl rfl rfl rfl (c_LB_requireTermX hl h hb (by omega) hQ)
theorem c_LB_reduce (P : List Nat → Prop) (hP1 : ∀ r, P r → ∀ i, r.getD i 0 < 10000) (hP2 : ∀ r i, P r → te_fr r r.length 0 = some i → (te_step r i).length ≤ 2000 → P (te_step r i)) (h : lb_is M sl tp pl o) {a N : Nat} (ha : a < 12) (hN1 : 1 ≤ N) (hN2 : N ≤ 400) (hn : 0 < (sl a).length) (hPr : P (sl a))
    (hQ : ∀ M', lb_is M' (sl_up sl a (te_rn N (sl a)).1) tp pl (te_rn N (sl a)).2.2 → mm_on mm_bn M M' → Q (.inl (some (.int (nI (te_rn N (sl a)).2.1)))) M') : mm_Ct l sc Y_LB_reduce M [.ref 0, .int (nI a), .int (nI N)] Q := by
  obtain ⟨ga, hga⟩ := h.2.1 a ha
  obtain ⟨ra, rb, dep, r1, g1, r2, g2, hR, hA, hB⟩ := h.2.2.2.2.2.2.2.1
  have hap : te_ap ra (2 + 2 * a) := by
    obtain ⟨-, -, r3⟩ := hR
    unfold te_ap te_P
    rcases r3 with ⟨h1, h2⟩ | ⟨h1, h2⟩ <;> omega
  refine mm_by k_LB_reduce w_LB_reduce rfl rfl ?_
  refine mg_run 2 rfl ?_
  refine mg_callV [.int (nI a)] rfl rfl rfl h.1.1 rfl rfl rfl rfl (c_LB_requireSlot ha ?_)
  refine mg_run 2 rfl ?_
  refine mg_callV [.int (nI N)] rfl rfl rfl h.1.1 rfl rfl rfl rfl (c_LB_requireSteps hN1 hN2 ?_)
  refine mg_run 2 rfl ?_
  refine mg_callV [.int (nI a)] rfl rfl rfl h.1.1 rfl rfl rfl rfl (c_LB_requireTerm h ha hn ?_)
  refine mg_run 1 rfl ?_
  refine mg_get rfl rfl h.1.1 rfl ?_
  refine mg_run 1 rfl ?_
  refine mg_get rfl rfl h.1.1 rfl ?_
  refine mg_run 1 rfl ?_
  refine mg_aldN rfl h.1.2 (by decide) ha (lb_f12 ha) ?_
  refine mg_run 1 rfl ?_
  refine mg_callV [.ref (2 + 2 * a), .int (nI N)] rfl rfl rfl hR.1 rfl rfl rfl rfl (c_Re_run (bf := (r2, g2)) P hP1 hP2 (by omega) hPr hR hA hB hga hap (fun M1 a1 b1 dep1 ga1 bf1 q1 q2 q3 q4 => ?_))
  have hon1 : mm_on (mm_rg 39 46) M M1 := q4
  have h1 := h.red ⟨a1, b1, dep1, _, _, _, _, q1, q2, q3⟩ hon1
  obtain ⟨ga2, hga2⟩ := h1.2.1 a ha
  obtain ⟨fa, t1, -⟩ := id hga2
  have hap1 : te_ap (2 + 2 * a) a1 := by
    obtain ⟨-, -, r3⟩ := q1
    unfold te_ap te_P
    rcases r3 with ⟨h1, h2⟩ | ⟨h1, h2⟩ <;> omega
  refine mg_run 2 rfl ?_
  refine mg_get rfl rfl h1.1.1 rfl ?_
  refine mg_run 1 rfl ?_
  refine mg_aldN rfl h1.1.2 (by decide) ha (lb_f12 ha) ?_
  refine mg_run 1 rfl ?_
  refine mg_get rfl rfl h1.1.1 rfl ?_
  refine mg_callV [] rfl rfl rfl q1.1 rfl rfl rfl rfl (c_Re_result q1 ?_)
  refine mg_callV [.ref a1] rfl rfl rfl t1 rfl rfl rfl rfl (c_Te_become hga2 q2 hap1 (fun M2 p1 p2 => ?_))
  refine mg_run 1 rfl ?_
  refine mg_ir rfl rfl rfl rfl ?_
  exact hQ M2 (h1.slot ha p1 p2) ((hon1.bn (by decide)).tr (p2.te.bn (by omega)))
theorem c_LB_reduceX (hl : l.stackTraces = false) (h : lb_is M sl tp pl o) {x y : Int32} (hx : no_slot x ∨ no_steps y) (hQ : Q (.inr 0) M) : mm_Ct l sc Y_LB_reduce M [.ref 0, .int x, .int y] Q := by
  refine mm_by k_LB_reduce w_LB_reduce rfl rfl ?_
  refine mg_run 2 rfl ?_
  rcases slot_or x with h1 | ⟨a, ha, rfl⟩
  · exact mg_callV [.int x] rfl rfl rfl h.1.1 rfl rfl rfl rfl (c_LB_requireSlotX hl h1 hQ)
  · refine mg_callV [.int (nI a)] rfl rfl rfl h.1.1 rfl rfl rfl rfl (c_LB_requireSlot ha ?_)
    refine mg_run 2 rfl ?_
    have h2 : no_steps y := hx.elim (fun h9 => absurd h9 (no_nI ha)) id
    exact mg_callV [.int y] rfl rfl rfl h.1.1 rfl rfl rfl rfl (c_LB_requireStepsX hl h2 hQ)
theorem c_LB_reduceE (hl : l.stackTraces = false) (h : lb_is M sl tp pl o) {a N : Nat} (ha : a < 12) (hN1 : 1 ≤ N) (hN2 : N ≤ 400) (hn : (sl a).length = 0) (hQ : Q (.inr 1) M) : mm_Ct l sc Y_LB_reduce M [.ref 0, .int (nI a), .int (nI N)] Q := by
  refine mm_by k_LB_reduce w_LB_reduce rfl rfl ?_
  refine mg_run 2 rfl ?_
  refine mg_callV [.int (nI a)] rfl rfl rfl h.1.1 rfl rfl rfl rfl (c_LB_requireSlot ha ?_)
  refine mg_run 2 rfl ?_
  refine mg_callV [.int (nI N)] rfl rfl rfl h.1.1 rfl rfl rfl rfl (c_LB_requireSteps hN1 hN2 ?_)
  refine mg_run 2 rfl ?_
  exact mg_callV [.int (nI a)] rfl rfl rfl h.1.1 rfl rfl rfl rfl (c_LB_requireTermX hl h ha hn hQ)
theorem c_LB_abstracted (hl : l.stackTraces = false) (P : Nat → List Nat → Prop) (hP1 : ∀ m r, P m r → ∀ i, r.getD i 0 < 10000) (hP2 : ∀ i r, P (i + 1) r → r.getD i 0 = 92 → i < r.length ∧ (∀ j, i + 1 ≤ j → j < te_en r (i + 1) → te_en r j ≤ te_en r (i + 1) ∧ ¬ r.getD j 0 = 92) ∧ ((ab_st r i).length ≤ 2000 → P i (ab_st r i))) (hP3 : ∀ i r, P (i + 1) r → ¬ r.getD i 0 = 92 → P i r) (h : lb_is M sl tp pl o) {a : Nat} (ha : a < 12) (hn : 0 < (sl a).length) (hPr : P (sl a).length (sl a))
    (hQ : ∀ r', te_ab (sl a).length (sl a) = some r' → ∀ M', lb_is M' (sl_up sl a r') tp pl o → mm_on mm_bn M M' → Q (.inl (some (.int (nI r'.length)))) M')
    (hN : te_ab (sl a).length (sl a) = none → ∀ M', lb_is M' sl tp pl o → mm_on mm_bn M M' → Q (.inr 1) M') : mm_Ct l sc Y_LB_abstracted M [.ref 0, .int (nI a)] Q := by
  obtain ⟨ga, hga⟩ := h.2.1 a ha
  obtain ⟨ra, rb, en, us, r1, g1, r2, g2, hA, hT, hB⟩ := h.2.2.2.2.2.2.2.2
  have hap : te_ap ra (2 + 2 * a) := by
    obtain ⟨-, -, -, r3⟩ := hA
    unfold te_ap te_P
    rcases r3 with ⟨h1, h2⟩ | ⟨h1, h2⟩ <;> omega
  refine mm_by k_LB_abstracted w_LB_abstracted rfl rfl ?_
  refine mg_run 2 rfl ?_
  refine mg_callV [.int (nI a)] rfl rfl rfl h.1.1 rfl rfl rfl rfl (c_LB_requireSlot ha ?_)
  refine mg_run 2 rfl ?_
  refine mg_callV [.int (nI a)] rfl rfl rfl h.1.1 rfl rfl rfl rfl (c_LB_requireTerm h ha hn ?_)
  refine mg_run 1 rfl ?_
  refine mg_get rfl rfl h.1.1 rfl ?_
  refine mg_run 1 rfl ?_
  refine mg_get rfl rfl h.1.1 rfl ?_
  refine mg_run 1 rfl ?_
  refine mg_aldN rfl h.1.2 (by decide) ha (lb_f12 ha) ?_
  refine mg_callV [.ref (2 + 2 * a)] rfl rfl rfl hA.1 rfl rfl rfl rfl (c_Ab_run (bf := (r2, g2)) P hP1 hP2 hP3 hPr hA hT hB hga hap (fun M1 a1 b1 en1 us1 ga1 ra1 bf1 q0 q1 q2 q3 q4 => ?_) (fun M1 a1 b1 en1 us1 ga1 ra1 bf1 q0 q1 q2 q3 q4 => ?_))
  · have hon1 : mm_on (mm_rg 47 53) M M1 := q4
    have h1 := h.abs ⟨a1, b1, en1, us1, _, _, _, _, q1, q2, q3⟩ hon1
    obtain ⟨ga2, hga2⟩ := h1.2.1 a ha
    obtain ⟨fa, t1, -⟩ := id hga2
    have hap1 : te_ap (2 + 2 * a) a1 := by
      obtain ⟨-, -, -, r3⟩ := q1
      unfold te_ap te_P
      rcases r3 with ⟨h1, h2⟩ | ⟨h1, h2⟩ <;> omega
    refine mg_zne rfl (by decide) (fun _ => ?_) (fun h => absurd h (by decide))
    refine mg_run 1 rfl ?_
    refine mg_get rfl rfl h1.1.1 rfl ?_
    refine mg_run 1 rfl ?_
    refine mg_aldN rfl h1.1.2 (by decide) ha (lb_f12 ha) ?_
    refine mg_run 1 rfl ?_
    refine mg_get rfl rfl h1.1.1 rfl ?_
    refine mg_callV [] rfl rfl rfl q1.1 rfl rfl rfl rfl (c_Ab_result q1 ?_)
    refine mg_callV [.ref a1] rfl rfl rfl t1 rfl rfl rfl rfl (c_Te_become hga2 q2 hap1 (fun M2 p1 p2 => ?_))
    have h2 := h1.slot ha p1 p2
    obtain ⟨fa2, t2, -⟩ := id p1
    refine mg_run 1 rfl ?_
    refine mg_get rfl rfl h2.1.1 rfl ?_
    refine mg_run 1 rfl ?_
    refine mg_aldN rfl h2.1.2 (by decide) ha (lb_f12 ha) ?_
    refine mg_callV [] rfl rfl rfl t2 rfl rfl rfl rfl (c_Te_length p1 ?_)
    refine mg_ir rfl rfl rfl rfl ?_
    exact hQ ra1 q0 M2 h2 ((hon1.bn (by decide)).tr (p2.te.bn (by omega)))
  · have hon1 : mm_on (mm_rg 47 53) M M1 := q4
    refine mg_zne rfl (by decide) (fun h => absurd h (by decide)) (fun _ => ?_)
    exact mg_throw mm_xs11 rfl rfl rfl rfl rfl rfl rfl hl (hN q0 M1 (h.abs ⟨a1, b1, en1, us1, _, _, _, _, q1, q2, q3⟩ hon1) (hon1.bn (by decide)))
theorem c_LB_abstractedX (hl : l.stackTraces = false) (h : lb_is M sl tp pl o) {x : Int32} (hx : no_slot x) (hQ : Q (.inr 0) M) : mm_Ct l sc Y_LB_abstracted M [.ref 0, .int x] Q := by
  refine mm_by k_LB_abstracted w_LB_abstracted rfl rfl ?_
  refine mg_run 2 rfl ?_
  exact mg_callV [.int x] rfl rfl rfl h.1.1 rfl rfl rfl rfl (c_LB_requireSlotX hl hx hQ)
theorem c_LB_abstractedE (hl : l.stackTraces = false) (h : lb_is M sl tp pl o) {a : Nat} (ha : a < 12) (hn : (sl a).length = 0) (hQ : Q (.inr 1) M) : mm_Ct l sc Y_LB_abstracted M [.ref 0, .int (nI a)] Q := by
  refine mm_by k_LB_abstracted w_LB_abstracted rfl rfl ?_
  refine mg_run 2 rfl ?_
  refine mg_callV [.int (nI a)] rfl rfl rfl h.1.1 rfl rfl rfl rfl (c_LB_requireSlot ha ?_)
  refine mg_run 2 rfl ?_
  exact mg_callV [.int (nI a)] rfl rfl rfl h.1.1 rfl rfl rfl rfl (c_LB_requireTermX hl h ha hn hQ)
end
