/-! The reference: reading numerals; closing abstractions. -/
theorem getD_lt {tp : List Nat} {j : Nat} (h : 0 < tp.getD j 0) : j < tp.length := by
  refine Decidable.byContradiction (fun c => ?_)
  rw [te_getD (by omega)] at h
  omega
def dg (tp : List Nat) (j : Nat) : Prop := 48 ≤ tp.getD j 0 ∧ tp.getD j 0 ≤ 57
section
variable {l : Launch} {sc : Nat × (Nat → Int32)} {M0 M : mm_M} {Q : mm_O → mm_M → Prop} {x : Nat → Int32} {A : Nat → Nat → Int32} {tp : List Nat} {i k nb : Nat} {am : Nat → Nat} {nm : Nat → Int32} {Ls L : lx_L} {sg : List Nat} {be kd : Nat}
theorem lp_Mo_dig (hb : ∀ j, tp.getD j 0 < 256) (h : mo_is M0 M x A) (hT : tx_tp tp x A) {p v d : Nat} (hp : p ≤ 1000) (hd : d < 2) (h21 : x 21 = nI p) {x3 : Option Value}
    (hD : dg tp p → ∀ M', mo_is M0 M' (upd x 21 (nI (p + 1))) A → mm_Go l sc Y_Mo_numeral 0 0 M' [some (.ref 54), some (.int (nI (10 * v + tp.getD p 0 - 48))), some (.int (nI (d + 1))), x3] [] 14 Q)
    (hE : ¬ dg tp p → mm_Go l sc Y_Mo_numeral 0 0 M [some (.ref 54), some (.int (nI v)), some (.int (nI d)), x3] [] 83 Q) : mm_Go l sc Y_Mo_numeral 0 0 M [some (.ref 54), some (.int (nI v)), some (.int (nI d)), x3] [] 14 Q := by
  have t2 := hT.2.1
  have hbp := hb p
  refine mg_run 2 rfl ?_
  refine mg_ge rfl (by omega) (by decide) (fun h => absurd h (by omega)) (fun _ => ?_)
  refine mg_run 1 rfl ?_
  refine mg_get rfl rfl h.2.1 rfl ?_
  rw [h21]
  refine mg_run 1 rfl ?_
  refine mg_get rfl rfl h.2.1 rfl ?_
  rw [hT.1]
  refine mg_ge rfl (by omega) (by omega) (fun c => ?_) (fun c => ?_)
  · refine hE (fun h9 => ?_)
    unfold dg at h9
    rw [te_getD c] at h9
    omega
  · refine mg_run 1 rfl ?_
    refine mg_get rfl rfl h.2.1 rfl ?_
    refine mg_run 1 rfl ?_
    refine mg_get rfl rfl h.2.1 rfl ?_
    rw [h21]
    refine mr_ild 0 rfl h (by decide) (show p < 400 by omega) ?_
    rw [hT.2.2 p c]
    refine mg_run 2 rfl ?_
    have e1 : (nI (tp.getD p 0)).toInt = tp.getD p 0 := nI_toInt (by omega)
    have e2 : (nI 48).toInt = 48 := by decide
    have e3 : (nI 57).toInt = 57 := by decide
    refine mg_callS [.int (nI (tp.getD p 0)), .int (nI 48), .int (nI 57)] rfl rfl rfl rfl rfl rfl (c_Mo_in (fun c1 c2 => ?_) (fun c1 => ?_))
    · refine mg_zeq rfl (by decide) (fun c => absurd c (by decide)) (fun _ => ?_)
      have hd9 : dg tp p := by unfold dg; omega
      refine mg_run 2 rfl ?_
      refine mg_mulN rfl ?_
      refine mg_run 1 rfl ?_
      refine mg_get rfl rfl h.2.1 rfl ?_
      refine mg_run 1 rfl ?_
      refine mg_get rfl rfl h.2.1 rfl ?_
      rw [h21]
      refine mr_ild 0 rfl h (by decide) (show p < 400 by omega) ?_
      rw [hT.2.2 p c]
      refine mg_addN rfl ?_
      refine mg_run 1 rfl ?_
      refine mg_subN rfl (by unfold dg at hd9; omega) ?_
      refine mg_run 1 rfl ?_
      refine mg_incN rfl rfl rfl ?_
      refine mg_run 2 rfl ?_
      refine mg_get rfl rfl h.2.1 rfl ?_
      rw [h21]
      refine mg_run 1 rfl ?_
      refine mg_addN rfl ?_
      refine mr_put rfl rfl h rfl rfl rfl (fun M1 q1 => ?_)
      refine mg_run 1 rfl ?_
      exact hD hd9 M1 q1
    · refine mg_zeq rfl (by decide) (fun _ => ?_) (fun c => absurd c (by decide))
      exact hE (fun h9 => by unfold dg at h9; omega)
theorem lp_Mo_rep {v : Nat} (hv : v ≤ 10000) {y2 : Int32} : ∀ m kk (M : mm_M) (x : Nat → Int32) (A : Nat → Nat → Int32) (sg : List Nat), mo_is M0 M x A → tx_is tp x A i k nb am ((sg, be, kd) :: L) nm → v - kk = m → kk ≤ v →
    (∀ M' x' A', mo_is M0 M' x' A' → tf x x' → ta A A' → tx_is tp x' A' i k nb am ((sg ++ bu_rep m ++ [1000], be, kd) :: L) nm → Q (.inl none) M') →
    mm_Go l sc Y_Mo_numeral 0 0 M [some (.ref 54), some (.int (nI v)), some (.int y2), some (.int (nI kk))] [] 110 Q := by
  intro m
  induction m with
  | zero =>
    intro kk M x A sg h ht hm hk hQ
    refine mg_run 2 rfl ?_
    refine mg_ge rfl (by omega) (by omega) (fun _ => ?_) (fun h => absurd h (by omega))
    refine mg_run 2 rfl ?_
    refine mg_callV [.int (xc 1000)] rfl rfl rfl h.2.1 rfl rfl rfl rfl (tx_put h ht (fun M1 x1 A1 q1 f1 g1 u1 => ?_))
    refine mg_vr rfl rfl rfl rfl (hQ M1 x1 A1 q1 f1 g1 ?_)
    rw [bu_rep, List.append_nil]
    exact u1
  | succ m ih =>
    intro kk M x A sg h ht hm hk hQ
    refine mg_run 2 rfl ?_
    refine mg_ge rfl (by omega) (by omega) (fun h => absurd h (by omega)) (fun _ => ?_)
    refine mg_run 2 rfl ?_
    refine mg_callV [.int (xc 64)] rfl rfl rfl h.2.1 rfl rfl rfl rfl (tx_put h ht (fun M1 x1 A1 q1 f1 g1 u1 => ?_))
    refine mg_run 2 rfl ?_
    refine mg_callV [.int (xc 1001)] rfl rfl rfl q1.2.1 rfl rfl rfl rfl (tx_put q1 u1 (fun M2 x2 A2 q2 f2 g2 u2 => ?_))
    refine mg_incN rfl rfl rfl ?_
    refine mg_run 1 rfl ?_
    refine ih (kk + 1) M2 x2 A2 _ q2 u2 (by omega) (by omega) (fun M' x' A' p1 p2 p3 p4 => hQ M' x' A' p1 ((f1.tr f2).tr p2) ((g1.tr g2).tr p3) ?_)
    have e : sg ++ bu_rep (m + 1) ++ [1000] = sg ++ [64] ++ [1001] ++ bu_rep m ++ [1000] := by
      rw [bu_rep]
      simp only [List.append_assoc]
    rw [e]
    exact p4
theorem lp_Mo_numE2 (h : mo_is M0 M x A) (ht : tx_is tp x A i k nb am ((sg, be, kd) :: L) nm) {v d : Nat} (hv : v ≤ 10000) (hd : 0 < d) (hd2 : d ≤ 2) {x3 : Option Value}
    (hQ : ∀ M' x' A', mo_is M0 M' x' A' → tf x x' → ta A A' → tx_is tp x' A' i k nb am ((sg ++ bu_num v, be, kd) :: L) nm → Q (.inl none) M') : mm_Go l sc Y_Mo_numeral 0 0 M [some (.ref 54), some (.int (nI v)), some (.int (nI d)), x3] [] 83 Q := by
  refine mg_run 1 rfl ?_
  refine mg_zne rfl (by omega) (fun _ => ?_) (fun c => absurd c (by omega))
  refine mg_run 2 rfl ?_
  refine mg_callV [.int (xc 92)] rfl rfl rfl h.2.1 rfl rfl rfl rfl (tx_put h ht (fun M1 x1 A1 q1 f1 g1 u1 => ?_))
  refine mg_run 2 rfl ?_
  refine mg_callV [.int (xc 92)] rfl rfl rfl q1.2.1 rfl rfl rfl rfl (tx_put q1 u1 (fun M2 x2 A2 q2 f2 g2 u2 => ?_))
  refine mg_run 2 rfl ?_
  refine lp_Mo_rep hv _ 0 M2 x2 A2 _ q2 u2 rfl (Nat.zero_le _) (fun M' x' A' p1 p2 p3 p4 => hQ M' x' A' p1 ((f1.tr f2).tr p2) ((g1.tr g2).tr p3) ?_)
  have e : sg ++ bu_num v = sg ++ [92] ++ [92] ++ bu_rep v ++ [1000] := by
    unfold bu_num
    simp only [List.append_assoc]
  rw [e]
  exact p4
theorem c_Mo_numeral (hb : ∀ j, tp.getD j 0 < 256) (h : mo_is M0 M x A) (ht : tx_is tp x A i k nb am ((sg, be, kd) :: L) nm) (hi : i ≤ 400)
    (hQ : dg tp (i + 1) → ∀ M' x' A' i', mo_is M0 M' x' A' → tf x x' → ta A A' → (dg tp (i + 2) → i' = i + 3) → (¬ dg tp (i + 2) → i' = i + 2) → tx_is tp x' A' i' k nb am ((sg ++ bu_num (ta_num tp i), be, kd) :: L) nm → Q (.inl none) M')
    (hN : ¬ dg tp (i + 1) → ∀ M' x', mo_is M0 M' x' A → tf x x' → x' 23 = nI 1 → x' 3 = nI (i + 1) → Q (.inl none) M') : mm_Ct l sc Y_Mo_numeral M [.ref 54] Q := by
  have hb1 := hb (i + 1)
  have hb2 := hb (i + 2)
  refine mm_by k_Mo_numeral w_Mo_numeral rfl rfl ?_
  refine mg_run 2 rfl ?_
  refine mg_get rfl rfl h.2.1 rfl ?_
  rw [ht.2.1]
  refine mg_run 1 rfl ?_
  refine mg_addN rfl ?_
  refine mr_put rfl rfl h rfl rfl rfl (fun M1 q1 => ?_)
  refine mg_run 4 rfl ?_
  have f1 : fx [21] x (upd x 21 (nI (i + 1))) := fx.up (by decide) _ _
  have t1 := ht.mv f1 pk_us
  refine lp_Mo_dig hb q1 t1.1 (p := i + 1) (v := 0) (d := 0) (by omega) (by decide) pk_us (fun c1 M2 q2 => ?_) (fun c1 => ?_)
  · have f2 : fx [21] (upd x 21 (nI (i + 1))) (upd (upd x 21 (nI (i + 1))) 21 (nI (i + 1 + 1))) := fx.up (by decide) _ _
    have t2 := t1.mv f2 pk_us
    refine lp_Mo_dig hb q2 t2.1 (p := i + 1 + 1) (d := 1) (by omega) (by decide) pk_us (fun c2 M3 q3 => ?_) (fun c2 => ?_)
    · have f3 : fx [21] (upd (upd x 21 (nI (i + 1))) 21 (nI (i + 1 + 1))) (upd (upd (upd x 21 (nI (i + 1))) 21 (nI (i + 1 + 1))) 21 (nI (i + 1 + 1 + 1))) := fx.up (by decide) _ _
      have t3 := t2.mv f3 pk_us
      refine mg_run 2 rfl ?_
      refine mg_ge (a := 2) rfl (by decide) (by decide) (fun _ => ?_) (fun h => absurd h (by decide))
      have c1' := c1
      have c2' := c2
      unfold dg at c1' c2'
      have ev : ta_num tp i = 10 * (10 * 0 + tp.getD (i + 1) 0 - 48) + tp.getD (i + 1 + 1) 0 - 48 := by
        unfold ta_num
        rw [if_pos c2']
        show 10 * (tp.getD (i + 1) 0 - 48) + (tp.getD (i + 1 + 1) 0 - 48) = _
        omega
      refine lp_Mo_numE2 q3 t3 (by omega) (by decide) (by decide) (fun M' x' A' p1 p2 p3 p4 => hQ c1 M' x' A' (i + 3) p1 (((f1.tr f2).tr f3).wk (by decide) |>.tr p2) p3 (fun _ => rfl) (fun c9 => absurd c2 c9) ?_)
      rw [ev]
      exact p4
    · have c1' := c1
      have c2' := c2
      unfold dg at c1' c2'
      have ev : ta_num tp i = 10 * 0 + tp.getD (i + 1) 0 - 48 := by
        unfold ta_num
        rw [if_neg c2']
        omega
      refine lp_Mo_numE2 q2 t2 (by omega) (by decide) (by decide) (fun M' x' A' p1 p2 p3 p4 => hQ c1 M' x' A' (i + 2) p1 ((f1.tr f2).wk (by decide) |>.tr p2) p3 (fun c9 => absurd c9 c2) (fun _ => rfl) ?_)
      rw [ev]
      exact p4
  · refine mg_run 1 rfl ?_
    refine mg_zne rfl (by decide) (fun c => absurd c (by decide)) (fun _ => ?_)
    refine mg_run 2 rfl ?_
    refine mg_get rfl rfl q1.2.1 rfl ?_
    rw [pk_us]
    refine mg_callV [.int (nI (i + 1))] rfl rfl rfl q1.2.1 rfl rfl rfl rfl (c_Mo_fail q1 t1.2.2.2.1.1 (fun M2 q2 => ?_))
    refine mg_vr rfl rfl rfl rfl (hN c1 M2 _ q2 ?_ ?_ pk_us)
    · exact (f1.wk (by decide)).tr ((fx.up (by decide) _ _).tr (fx.up (by decide) _ _))
    · rw [pk_un (by decide), pk_us]
/-- the look at the innermost count, nothing to close -/
theorem lp_Mo_close9 (h : mo_is M0 M x A) (ht : tx_is tp x A i k nb am ((sg, be, kd) :: L) nm) (hlen : L.length < 422) (ha : am be ≤ 1000) (hQ : Q (.inl (some (.int (nI (if am be = 0 then 0 else 1))))) M) : mm_Go l sc Y_Mo_closeAbstractions 0 0 M [some (.ref 54)] [] 63 Q := by
  obtain ⟨⟨t1, t2, t3⟩, h21, h20, ⟨w1, w2⟩, ⟨k1, k2⟩, ⟨l1, l2, l3⟩, n⟩ := ht
  have l1 : x 17 = nI (L.length + 1) := l1
  have m1 : A 8 L.length = nI (am be) := l2.1
  refine mg_run 1 rfl ?_
  refine mg_get rfl rfl h.2.1 rfl ?_
  refine mg_run 1 rfl ?_
  refine mg_get rfl rfl h.2.1 rfl ?_
  rw [l1]
  refine mg_run 1 rfl ?_
  refine mg_subN rfl (by omega) ?_
  rw [Nat.add_sub_cancel]
  refine mr_ild 8 rfl h (by decide) (show L.length < 422 from hlen) ?_
  rw [m1]
  refine mg_zle rfl (by omega) (fun c => ?_) (fun c => ?_)
  · rw [if_pos c] at hQ
    refine mg_run 1 rfl ?_
    exact mg_zr rfl rfl (Or.inl rfl) rfl rfl hQ
  · rw [if_neg (by omega)] at hQ
    refine mg_run 2 rfl ?_
    exact mg_zr rfl rfl (Or.inr rfl) rfl rfl hQ
theorem kv_0 : kv 0 = -2 := rfl
theorem kv_1 : kv 1 = -1 := rfl
theorem kv_2 {d : Nat} (h : 2 ≤ d) : kv d = nI (d - 1) := by
  unfold kv
  rw [if_neg (by omega), if_neg (by omega)]
/-- the look at the innermost kind -/
theorem lp_Mo_close1 (h : mo_is M0 M x A) (ht : tx_is tp x A i k nb am ((sg, be, kd) :: L) nm) (hlen : L.length < 422) (hkd : kd ≤ 1000) (kY : 2 ≤ kd → mm_Go l sc Y_Mo_closeAbstractions 0 0 M [some (.ref 54)] [] 14 Q) (kN : kd < 2 → mm_Go l sc Y_Mo_closeAbstractions 0 0 M [some (.ref 54)] [] 63 Q) : mm_Go l sc Y_Mo_closeAbstractions 0 0 M [some (.ref 54)] [] 0 Q := by
  obtain ⟨⟨t1, t2, t3⟩, h21, h20, ⟨w1, w2⟩, ⟨k1, k2⟩, ⟨l1, l2, l3⟩, n⟩ := ht
  have l1 : x 17 = nI (L.length + 1) := l1
  have m2 : A 9 L.length = kv kd := l2.2.1
  refine mg_run 1 rfl ?_
  refine mg_get rfl rfl h.2.1 rfl ?_
  refine mg_run 1 rfl ?_
  refine mg_get rfl rfl h.2.1 rfl ?_
  rw [l1]
  refine mg_run 1 rfl ?_
  refine mg_subN rfl (by omega) ?_
  rw [Nat.add_sub_cancel]
  refine mr_ild 9 rfl h (by decide) (show L.length < 422 from hlen) ?_
  rw [m2]
  by_cases c : 2 ≤ kd
  · rw [kv_2 c]
    refine mg_zle rfl (by omega) (fun c2 => absurd c2 (by omega)) (fun _ => kY c)
  · by_cases c1 : kd = 1
    · subst c1
      rw [kv_1]
      exact mg_if rfl (fun _ => kN (by decide)) (fun h9 => absurd (show (-1 : Int32) ≤ 0 by decide) h9)
    · have c0 : kd = 0 := by omega
      subst c0
      rw [kv_0]
      exact mg_if rfl (fun _ => kN (by decide)) (fun h9 => absurd (show (-2 : Int32) ≤ 0 by decide) h9)
theorem c_Mo_close0 (h : mo_is M0 M x A) (ht : tx_is tp x A i k nb am ((sg, be, kd) :: L) nm) (hlen : L.length < 422) (hkd : kd ≤ 1000) (ha : am be = 0) (hQ : Q (.inl (some (.int (nI 0)))) M) : mm_Ct l sc Y_Mo_closeAbstractions M [.ref 54] Q := by
  refine mm_by k_Mo_closeAbstractions w_Mo_closeAbstractions rfl rfl ?_
  refine lp_Mo_close1 h ht hlen hkd (fun _ => ?_) (fun _ => ?_)
  · obtain ⟨⟨t1, t2, t3⟩, h21, h20, ⟨w1, w2⟩, ⟨k1, k2⟩, ⟨l1, l2, l3⟩, n⟩ := ht
    have l1 : x 17 = nI (L.length + 1) := l1
    have m1 : A 8 L.length = nI (am be) := l2.1
    refine mg_run 1 rfl ?_
    refine mg_get rfl rfl h.2.1 rfl ?_
    refine mg_run 1 rfl ?_
    refine mg_get rfl rfl h.2.1 rfl ?_
    rw [l1]
    refine mg_run 1 rfl ?_
    refine mg_subN rfl (by omega) ?_
    rw [Nat.add_sub_cancel]
    refine mr_ild 8 rfl h (by decide) (show L.length < 422 from hlen) ?_
    rw [m1]
    refine mg_zne rfl (by omega) (fun c => absurd c (by omega)) (fun _ => ?_)
    refine mg_run 1 rfl ?_
    exact mg_zr rfl rfl (Or.inl rfl) rfl rfl hQ
  · refine lp_Mo_close9 h ht hlen (by omega) ?_
    rw [if_pos ha]
    exact hQ
theorem lp_Mo_closeA : ∀ (L : lx_L) (sg : List Nat) (be kd b : Nat) (M : mm_M) (x : Nat → Int32), mo_is M0 M x A → tx_is tp x A i (lx_k ((sg, be, kd) :: L)) nb am ((sg, be, kd) :: L) nm → lx_ok am b ((sg, be, kd) :: L) → L.length < 422 → lx_k ((sg, be, kd) :: L) ≤ 900 → (∀ e ∈ (sg, be, kd) :: L, am e.2.1 ≤ 1000) → 1 ≤ am be →
    (∀ M' x', mo_is M0 M' x' A → tf x x' → tx_is tp x' A i (lx_k (lx_cl [] ((sg, be, kd) :: L))) nb am (lx_cl [] ((sg, be, kd) :: L)) nm → Q (.inl (some (.int (nI 1)))) M') →
    mm_Go l sc Y_Mo_closeAbstractions 0 0 M [some (.ref 54)] [] 0 Q := by
  intro L
  induction L with
  | nil =>
    intro sg be kd b M x h ht hok hlen hk ham ha hQ
    have hkd : kd = 0 := hok.2.1 rfl
    subst hkd
    refine lp_Mo_close1 h ht hlen (by decide) (fun c => absurd c (by decide)) (fun _ => ?_)
    refine lp_Mo_close9 h ht hlen (ham _ List.mem_cons_self) ?_
    rw [if_neg (by omega)]
    refine hQ M x h (fx.rf _ _) ?_
    rw [lx_cl, if_neg (show ¬ 2 ≤ 0 by decide)]
    show tx_is tp x A i _ nb am ((sg ++ [], be, 0) :: []) nm
    rw [List.append_nil]
    exact ht
  | cons a L ih =>
    obtain ⟨sg2, be2, kd2⟩ := a
    intro sg be kd b M x h ht hok hlen hk ham ha hQ
    have hkk : lx_k ((sg, be, kd) :: (sg2, be2, kd2) :: L) = (kd - 1) + lx_k ((sg2, be2, kd2) :: L) := rfl
    refine lp_Mo_close1 h ht hlen (by omega) (fun c => ?_) (fun c => ?_)
    · obtain ⟨⟨t1, t2, t3⟩, h21, h20, ⟨w1, w2⟩, ⟨k1, k2⟩, ⟨l1, l2, l3⟩, n⟩ := id ht
      have l1 : x 17 = nI ((L.length + 1) + 1) := l1
      have m1 : A 8 (L.length + 1) = nI (am be) := l2.1
      have m2 : A 9 (L.length + 1) = kv kd := l2.2.1
      have hlen : L.length + 1 < 422 := hlen
      have ha9 := ham _ List.mem_cons_self
      have ha9 : am be ≤ 1000 := ha9
      rw [hkk] at k1 k2
      refine mg_run 1 rfl ?_
      refine mg_get rfl rfl h.2.1 rfl ?_
      refine mg_run 1 rfl ?_
      refine mg_get rfl rfl h.2.1 rfl ?_
      rw [l1]
      refine mg_run 1 rfl ?_
      refine mg_subN rfl (by omega) ?_
      rw [Nat.add_sub_cancel]
      refine mr_ild 8 rfl h (by decide) (show L.length + 1 < 422 from hlen) ?_
      rw [m1]
      refine mg_zne rfl (by omega) (fun _ => ?_) (fun c => absurd c (by omega))
      refine mg_run 2 rfl ?_
      refine mg_get rfl rfl h.2.1 rfl ?_
      rw [k1]
      refine mg_run 1 rfl ?_
      refine mg_get rfl rfl h.2.1 rfl ?_
      refine mg_run 1 rfl ?_
      refine mg_get rfl rfl h.2.1 rfl ?_
      rw [l1]
      refine mg_run 1 rfl ?_
      refine mg_subN rfl (by omega) ?_
      rw [Nat.add_sub_cancel]
      refine mr_ild 9 rfl h (by decide) (show L.length + 1 < 422 from hlen) ?_
      rw [m2, kv_2 c]
      refine mg_subN rfl (by omega) ?_
      rw [Nat.add_sub_cancel_left]
      refine mr_put rfl rfl h rfl rfl rfl (fun M1 q1 => ?_)
      refine mg_run 2 rfl ?_
      refine mg_get rfl rfl q1.2.1 rfl ?_
      rw [pk_un (by decide), l1]
      refine mg_run 1 rfl ?_
      refine mg_subN rfl (by omega) ?_
      rw [Nat.add_sub_cancel]
      refine mr_put rfl rfl q1 rfl rfl rfl (fun M2 q2 => ?_)
      refine mg_run 1 rfl ?_
      have f : fx [17, 19] x (upd (upd x 19 (nI (lx_k ((sg2, be2, kd2) :: L)))) 17 (nI (L.length + 1))) := (fx.up (by decide) _ _).tr (fx.up (by decide) _ _)
      have eo : lx_out ((sg2 ++ sg, be2, kd2) :: L) = lx_out ((sg, be, kd) :: (sg2, be2, kd2) :: L) := (List.append_assoc _ _ _).symm
      obtain ⟨o1, o2, o3, o4⟩ := hok
      refine ih (sg2 ++ sg) be2 kd2 be M2 _ q2 ?_ o4 (by omega) (by rw [hkk] at hk; show lx_k ((sg2, be2, kd2) :: L) ≤ 900; omega) (fun e he => ?_) (o3 (by simp)).2 (fun M' x' p1 p2 p3 => hQ M' x' p1 ((f.wk (by decide)).tr p2) ?_)
      · refine ⟨⟨(f 22 (by decide)).trans t1, t2, t3⟩, (f 21 (by decide)).trans h21, (f 20 (by decide)).trans h20, ⟨(f 23 (by decide)).trans w1, (f 3 (by decide)).trans w2⟩, ⟨?_, fun j hj => k2 j ?_⟩, ⟨pk_us, l2.2.2, fun hle => ?_⟩, ?_⟩
        · rw [pk_un (by decide), pk_us]
          rfl
        · have hj : j < lx_k ((sg2, be2, kd2) :: L) := hj
          omega
        · rw [eo] at hle
          exact (l3 hle).2
        · rw [eo]
          exact n.fr f (fa.rf [] A) (by decide) (by decide) (by decide)
      · rcases List.mem_cons.mp he with rfl | he
        · exact ham (sg2, be2, kd2) (List.mem_cons_of_mem _ List.mem_cons_self)
        · exact ham e (List.mem_cons_of_mem _ (List.mem_cons_of_mem _ he))
      · have ec : lx_cl [] ((sg, be, kd) :: (sg2, be2, kd2) :: L) = lx_cl [] ((sg2 ++ sg, be2, kd2) :: L) := by
          rw [lx_cl, if_pos (show 2 ≤ kd from c)]
          show lx_cl (sg ++ []) ((sg2, be2, kd2) :: L) = _
          rw [List.append_nil, lx_cl_m]
        rw [ec]
        exact p3
    · refine lp_Mo_close9 h ht hlen (ham _ List.mem_cons_self) ?_
      rw [if_neg (by omega)]
      refine hQ M x h (fx.rf _ _) ?_
      rw [lx_cl, if_neg (show ¬ 2 ≤ kd by omega)]
      show tx_is tp x A i _ nb am ((sg ++ [], be, kd) :: _) nm
      rw [List.append_nil]
      exact ht
end
