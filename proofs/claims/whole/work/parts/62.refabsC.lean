/-! The reference: abstractOne and abstracted. -/
section
variable {l : Launch} {sc : Nat × (Nat → Int32)} {M0 M : mm_M} {Q : mm_O → mm_M → Prop} {r : List Nat} {x : Nat → Int32} {A : Nat → Nat → Int32}
/-- the search for the last abstraction -/
theorem lp_Mo_ab1 (h : mo_is M0 M x A) (hR : ro_is x A r) (hv : ∀ i, r.getD i 0 < 10000) {x2 x3 x4 x5 : Option Value} {i : Nat} (hi : i < r.length) (h92 : r.getD i 0 = 92) (hno : ∀ j, i < j → ¬ r.getD j 0 = 92)
    (kk : mm_Go l sc Y_Mo_abstractOne 0 0 M [some (.ref 54), some (.int (nI i)), x2, x3, x4, x5] [] 28 Q) : ∀ m, i + 1 + m ≤ r.length → mm_Go l sc Y_Mo_abstractOne 0 0 M [some (.ref 54), some (.int (nI (i + 1 + m) + -1)), x2, x3, x4, x5] [] 7 Q := by
  have h4 := hR.2.1
  intro m
  induction m with
  | zero =>
    intro hm
    show mm_Go l sc Y_Mo_abstractOne 0 0 M [some (.ref 54), some (.int (nI (i + 1) + -1)), x2, x3, x4, x5] [] 7 Q
    rw [pk_m1]
    refine mg_run 1 rfl ?_
    refine mg_zlt rfl (by omega) ?_
    refine mg_run 1 rfl ?_
    refine mg_get rfl rfl h.2.1 rfl ?_
    refine mg_run 1 rfl ?_
    refine mr_ild 3 rfl h (by decide) (show i < 2001 by omega) ?_
    rw [hR.2.2 i hi]
    refine mg_run 1 rfl ?_
    refine mg_icmp rfl (fun _ => kk) (fun e => absurd ((xc_92 (hv _)).mpr h92) e)
  | succ m ih =>
    intro hm
    show mm_Go l sc Y_Mo_abstractOne 0 0 M [some (.ref 54), some (.int (nI (i + 1 + m + 1) + -1)), x2, x3, x4, x5] [] 7 Q
    rw [pk_m1]
    refine mg_run 1 rfl ?_
    refine mg_zlt rfl (by omega) ?_
    refine mg_run 1 rfl ?_
    refine mg_get rfl rfl h.2.1 rfl ?_
    refine mg_run 1 rfl ?_
    refine mr_ild 3 rfl h (by decide) (show i + 1 + m < 2001 by omega) ?_
    rw [hR.2.2 (i + 1 + m) (by omega)]
    refine mg_run 1 rfl ?_
    refine mg_icmp rfl (fun e => absurd ((xc_92 (hv _)).mp e) (hno _ (by omega))) (fun _ => ?_)
    refine mg_run 2 rfl ?_
    exact ih (by omega)
theorem lp_Mo_ab2 (h : mo_is M0 M x A) (hR : ro_is x A r) (hv : ∀ i, r.getD i 0 < 10000) {x2 x3 x4 x5 : Option Value} (hno : ∀ j, ¬ r.getD j 0 = 92)
    (kk : mm_Go l sc Y_Mo_abstractOne 0 0 M [some (.ref 54), some (.int (-1)), x2, x3, x4, x5] [] 28 Q) : ∀ m, m ≤ r.length → mm_Go l sc Y_Mo_abstractOne 0 0 M [some (.ref 54), some (.int (nI m + -1)), x2, x3, x4, x5] [] 7 Q := by
  have h4 := hR.2.1
  intro m
  induction m with
  | zero =>
    intro hm
    have e : nI 0 + -1 = (-1 : Int32) := by decide
    rw [e]
    refine mg_run 1 rfl ?_
    exact mg_zltM rfl kk
  | succ m ih =>
    intro hm
    rw [pk_m1]
    refine mg_run 1 rfl ?_
    refine mg_zlt rfl (by omega) ?_
    refine mg_run 1 rfl ?_
    refine mg_get rfl rfl h.2.1 rfl ?_
    refine mg_run 1 rfl ?_
    refine mr_ild 3 rfl h (by decide) (show m < 2001 by omega) ?_
    rw [hR.2.2 m (by omega)]
    refine mg_run 1 rfl ?_
    refine mg_icmp rfl (fun e => absurd ((xc_92 (hv _)).mp e) (hno _)) (fun _ => ?_)
    refine mg_run 2 rfl ?_
    exact ih (by omega)
theorem c_Mo_absN (h : mo_is M0 M x A) (hR : ro_is x A r) (hv : ∀ i, r.getD i 0 < 10000) (hno : ∀ j, ¬ r.getD j 0 = 92) (hQ : Q (.inl (some (.int (nI 0)))) M) : mm_Ct l sc Y_Mo_abstractOne M [.ref 54] Q := by
  refine mm_by k_Mo_abstractOne w_Mo_abstractOne rfl rfl ?_
  refine mg_run 1 rfl ?_
  refine mg_get rfl rfl h.2.1 rfl ?_
  rw [hR.1]
  refine mg_run 1 rfl ?_
  refine mg_sub1 rfl ?_
  refine mg_run 1 rfl ?_
  refine lp_Mo_ab2 h hR hv hno ?_ _ (Nat.le_refl _)
  refine mg_run 1 rfl ?_
  refine mg_zgeM rfl ?_
  refine mg_run 1 rfl ?_
  exact mg_zr rfl rfl (Or.inl rfl) rfl rfl hQ
theorem lp_Mo_ab4 {i : Nat} (hi : i ≤ r.length) {x3 x4 x5 : Option Value} : ∀ m k (M : mm_M) (x : Nat → Int32) (A : Nat → Nat → Int32) (out : List Nat), mo_is M0 M x A → ro_is x A r → nx_is x A out → i - k = m → k ≤ i →
    (∀ M' x' A' y2, mo_is M0 M' x' A' → fx [10, 11] x x' → fa [4] A A' → nx_is x' A' (out ++ te_pt r k i) → mm_Go l sc Y_Mo_abstractOne 0 0 M' [some (.ref 54), some (.int (nI i)), some (.int y2), x3, x4, x5] [] 61 Q) →
    mm_Go l sc Y_Mo_abstractOne 0 0 M [some (.ref 54), some (.int (nI i)), some (.int (nI k)), x3, x4, x5] [] 40 Q := by
  intro m
  induction m with
  | zero =>
    intro k M x A out h hR hn hm hk hQ
    have h4 := hR.2.1
    refine mg_run 2 rfl ?_
    refine mg_ge rfl (by omega) (by omega) (fun _ => ?_) (fun h => absurd h (by omega))
    refine hQ M x A _ h (fx.rf _ _) (fa.rf _ _) ?_
    rw [te_pt, hm, List.take_zero, List.append_nil]
    exact hn
  | succ m ih =>
    intro k M x A out h hR hn hm hk hQ
    have h4 := hR.2.1
    refine mg_run 2 rfl ?_
    refine mg_ge rfl (by omega) (by omega) (fun h => absurd h (by omega)) (fun hlt => ?_)
    refine mg_run 2 rfl ?_
    refine mg_get rfl rfl h.2.1 rfl ?_
    refine mg_run 1 rfl ?_
    refine mr_ild 3 rfl h (by decide) (show k < 2001 by omega) ?_
    rw [hR.2.2 k (by omega)]
    refine mg_callV [.int (xc (r.getD k 0))] rfl rfl rfl h.2.1 rfl rfl rfl rfl (c_Mo_put h hn (fun M1 x1 A1 p1 p2 p3 p4 => ?_))
    refine mg_incN rfl rfl rfl ?_
    refine mg_run 1 rfl ?_
    refine ih (k + 1) M1 x1 A1 _ p1 (hR.fr p2 p3 (by decide) (by decide)) p4 (by omega) (by omega) (fun M' x' A' y2 q1 q2 q3 q4 => hQ M' x' A' y2 q1 (p2.tr q2) (p3.tr q3) ?_)
    have e : te_pt r k i = r.getD k 0 :: te_pt r (k + 1) i := by
      unfold te_pt
      rw [te_drop (show k < r.length by omega), show i - k = (i - (k + 1)) + 1 by omega, List.take_succ_cons]
    rw [e]
    rw [List.append_assoc] at q4
    exact q4
theorem lp_Mo_ab5 {x1 x4 x5 : Option Value} {y2 : Int32} : ∀ m k (M : mm_M) (x : Nat → Int32) (A : Nat → Nat → Int32) (out : List Nat), mo_is M0 M x A → ro_is x A r → nx_is x A out → r.length - k = m → k ≤ r.length →
    ((out ++ r.drop k).length ≤ 2000 → ∀ M' x' A', mo_is M0 M' x' A' → fx [8, 10, 11] x x' → fa [3, 4] A A' → ro_is x' A' (out ++ r.drop k) → x' 11 = nI 0 → Q (.inl (some (.int (nI 1)))) M') →
    (2000 < (out ++ r.drop k).length → ∀ M' x' A', mo_is M0 M' x' A' → fx [8, 10, 11] x x' → fa [3, 4] A A' → x' 11 = nI 1 → Q (.inl (some (.int (nI 0)))) M') →
    mm_Go l sc Y_Mo_abstractOne 0 0 M [some (.ref 54), x1, some (.int y2), some (.int (nI k)), x4, x5] [] 221 Q := by
  intro m
  induction m with
  | zero =>
    intro k M x A out h hR hn hm hk hQ hN
    have h4 := hR.2.1
    have e : r.drop k = [] := List.drop_eq_nil_of_le (by omega)
    rw [e, List.append_nil] at hQ hN
    refine mg_run 2 rfl ?_
    refine mg_get rfl rfl h.2.1 rfl ?_
    rw [hR.1]
    refine mg_ge rfl (by omega) (by omega) (fun _ => ?_) (fun h => absurd h (by omega))
    obtain ⟨b, b1, b2, b3, b4, b5, b6⟩ := id hn
    refine mg_run 1 rfl ?_
    refine mg_get rfl rfl h.2.1 rfl ?_
    rw [b5]
    refine mg_zne rfl (by omega) (fun c => ?_) (fun c => ?_)
    · have b9 : b.2 = 1 := by omega
      refine mg_run 1 rfl ?_
      refine mg_get rfl rfl h.2.1 rfl ?_
      rw [b5]
      refine mg_zne rfl (by omega) (fun _ => ?_) (fun c2 => absurd c2 (by omega))
      refine mg_run 1 rfl ?_
      exact mg_zr rfl rfl (Or.inl rfl) rfl rfl (hN (b1.not c) M x A h (fx.rf _ _) (fa.rf _ _) (by rw [b5, b9]))
    · obtain ⟨o1, -⟩ := b1.ok c
      refine mg_run 1 rfl ?_
      refine mg_callV [] rfl rfl rfl h.2.1 rfl rfl rfl rfl (c_Mo_settle h hn o1 (fun M1 x1 A1 p1 p2 p3 p4 => ?_))
      have e11 : x1 11 = nI 0 := by rw [p2 11 (by decide), b5, c]
      refine mg_run 1 rfl ?_
      refine mg_get rfl rfl p1.2.1 rfl ?_
      rw [e11]
      refine mg_zne rfl (by decide) (fun c2 => absurd c2 (by decide)) (fun _ => ?_)
      refine mg_run 2 rfl ?_
      exact mg_zr rfl rfl (Or.inr rfl) rfl rfl (hQ o1 M1 x1 A1 p1 (p2.wk (by decide)) (p3.wk (by decide)) p4 e11)
  | succ m ih =>
    intro k M x A out h hR hn hm hk hQ hN
    have h4 := hR.2.1
    refine mg_run 2 rfl ?_
    refine mg_get rfl rfl h.2.1 rfl ?_
    rw [hR.1]
    refine mg_ge rfl (by omega) (by omega) (fun h => absurd h (by omega)) (fun hlt => ?_)
    refine mg_run 2 rfl ?_
    refine mg_get rfl rfl h.2.1 rfl ?_
    refine mg_run 1 rfl ?_
    refine mr_ild 3 rfl h (by decide) (show k < 2001 by omega) ?_
    rw [hR.2.2 k (by omega)]
    refine mg_callV [.int (xc (r.getD k 0))] rfl rfl rfl h.2.1 rfl rfl rfl rfl (c_Mo_put h hn (fun M1 x1 A1 p1 p2 p3 p4 => ?_))
    refine mg_incN rfl rfl rfl ?_
    refine mg_run 1 rfl ?_
    have e : out ++ [r.getD k 0] ++ r.drop (k + 1) = out ++ r.drop k := by rw [te_drop hlt, List.append_assoc]; rfl
    refine ih (k + 1) M1 x1 A1 _ p1 (hR.fr p2 p3 (by decide) (by decide)) p4 (by omega) (by omega) (fun o1 M' x' A' q1 q2 q3 q4 q5 => ?_) (fun o1 M' x' A' q1 q2 q3 q5 => ?_)
    · rw [e] at o1 q4
      exact hQ o1 M' x' A' q1 ((p2.wk (by decide)).tr q2) ((p3.wk (by decide)).tr q3) q4 q5
    · rw [e] at o1
      exact hN o1 M' x' A' q1 ((p2.wk (by decide)).tr q2) ((p3.wk (by decide)).tr q3) q5
theorem c_Mo_absS (h : mo_is M0 M x A) (hR : ro_is x A r) (hv : ∀ i, r.getD i 0 < 10000) (hz : ∀ i, i < r.length → ¬ r.getD i 0 = 0) (hcl : cl r) {i : Nat} (hi : i < r.length) (h92 : r.getD i 0 = 92) (hno : ∀ j, i < j → ¬ r.getD j 0 = 92) (hE : ∀ j, i + 1 ≤ j → j < te_en r (i + 1) → te_en r j ≤ te_en r (i + 1) ∧ ¬ r.getD j 0 = 92)
    (hQ : (ab_st r i).length ≤ 2000 → ∀ M' x' A', mo_is M0 M' x' A' → fx [8, 10, 11] x x' → fa [3, 4, 6] A A' → ro_is x' A' (ab_st r i) → x' 11 = nI 0 → Q (.inl (some (.int (nI 1)))) M')
    (hN : 2000 < (ab_st r i).length → ∀ M' x' A', mo_is M0 M' x' A' → fx [8, 10, 11] x x' → fa [3, 4, 6] A A' → x' 11 = nI 1 → Q (.inl (some (.int (nI 0)))) M') : mm_Ct l sc Y_Mo_abstractOne M [.ref 54] Q := by
  have h4 := hR.2.1
  have k1 := cl_abs hcl hi h92
  have en1 := en_abs hi h92
  have gt1 := te_en_gt k1
  have le1 : te_en r (i + 1) ≤ r.length := te_en_le (by omega)
  refine mm_by k_Mo_abstractOne w_Mo_abstractOne rfl rfl ?_
  refine mg_run 1 rfl ?_
  refine mg_get rfl rfl h.2.1 rfl ?_
  rw [hR.1]
  refine mg_run 1 rfl ?_
  refine mg_sub1 rfl ?_
  refine mg_run 1 rfl ?_
  have s1 : r.length = i + 1 + (r.length - (i + 1)) := by omega
  have go := lp_Mo_ab1 (l := l) (sc := sc) (Q := Q) (x2 := none) (x3 := none) (x4 := none) (x5 := none) h hR hv hi h92 hno ?_ (r.length - (i + 1)) (by omega)
  · rw [← s1] at go
    exact go
  refine mg_run 1 rfl ?_
  refine mg_zge rfl (by omega) ?_
  refine mg_run 1 rfl ?_
  refine mg_callV [] rfl rfl rfl h.2.1 rfl rfl rfl rfl (c_Mo_begin h (fun M2 x2 q2 f2 n2 => ?_))
  refine mg_run 2 rfl ?_
  have R2 : ro_is x2 A r := hR.fr f2 (fa.rf [] A) (by decide) (by decide)
  refine lp_Mo_ab4 (Nat.le_of_lt hi) _ 0 M2 x2 A _ q2 R2 n2 rfl (Nat.zero_le _) (fun M3 x3 A3 y2 q3 f3 g3 n3 => ?_)
  rw [List.nil_append] at n3
  refine mg_run 3 rfl ?_
  refine mg_get rfl rfl q3.2.1 rfl ?_
  refine mg_run 3 rfl ?_
  refine mg_addN rfl ?_
  refine mr_ist 6 rfl q3 (by decide) (show 0 < 2002 by decide) (fun M4 q4 => ?_)
  have g4 : fa [6] A3 (aup A3 6 (upd (A3 6) 0 (nI (i + 1)))) := fa.up (by decide) _ _
  have R4 : ro_is x3 (aup A3 6 (upd (A3 6) 0 (nI (i + 1)))) r := (R2.fr f3 g3 (by decide) (by decide)).fr (fx.rf [] x3) g4 (by decide) (by decide)
  refine lp_Mo_ab3 hv hz hcl (s := i + 1) (e := te_en r (i + 1)) le1 hE _ (i + 1) [i + 1] none none none M4 x3 _ _ q4 R4 (n3.fr (fx.rf [] x3) g4 (by decide) (by decide) (by decide)) ?_ ⟨rfl, gt1, rfl⟩ (Nat.le_refl _) (Nat.le_refl _) (fun M5 x5 A5 y3 y4 y5 q5 f5 g5 n5 => ?_)
  · rw [aup_s]
    exact sk_push (st := []) (fun j hj => absurd hj (Nat.not_lt_zero j))
  · refine mg_run 2 rfl ?_
    have R5 : ro_is x5 A5 r := R4.fr f5 g5 (by decide) (by decide)
    refine mg_callV [.int (nI i)] rfl rfl rfl q5.2.1 rfl rfl rfl rfl (c_Mo_behind q5 R5 hv (hcl i hi) ?_)
    rw [en1]
    refine mg_run 1 rfl ?_
    have F : fx [8, 10, 11] x x5 := ((f2.wk (by decide)).tr (f3.wk (by decide))).tr (f5.wk (by decide))
    have G : fa [3, 4, 6] A A5 := ((g3.wk (by decide)).tr (g4.wk (by decide))).tr (g5.wk (by decide))
    have eo : te_pt r 0 i ++ ab_wl r (i + 1) (te_en r (i + 1)) (te_en r (i + 1) - (i + 1)) (i + 1) (i + 1) ++ r.drop (te_en r (i + 1)) = ab_st r i := rfl
    refine lp_Mo_ab5 _ (te_en r (i + 1)) M5 x5 A5 _ q5 R5 n5 rfl le1 (fun o1 M' x' A' p1 p2 p3 p4 p5 => ?_) (fun o1 M' x' A' p1 p2 p3 p5 => ?_)
    · rw [eo] at o1 p4
      exact hQ o1 M' x' A' p1 (F.tr p2) (G.tr (p3.wk (by decide))) p4 p5
    · rw [eo] at o1
      exact hN o1 M' x' A' p1 (F.tr p2) (G.tr (p3.wk (by decide))) p5
end
section
variable {l : Launch} {sc : Nat × (Nat → Int32)} {M0 M : mm_M} {Q : mm_O → mm_M → Prop} {sl : Nat → List Nat} {tp : List Nat} {pl : Int32} {o th : Nat}
theorem lp_Mo_abstracted (P : Nat → List Nat → Prop) (hP1 : ∀ m r, P m r → (∀ i, r.getD i 0 < 10000) ∧ (∀ i, i < r.length → ¬ r.getD i 0 = 0) ∧ cl r ∧ ∀ j, m ≤ j → ¬ r.getD j 0 = 92)
    (hP2 : ∀ i r, P (i + 1) r → r.getD i 0 = 92 → i < r.length ∧ (∀ j, i + 1 ≤ j → j < te_en r (i + 1) → te_en r j ≤ te_en r (i + 1) ∧ ¬ r.getD j 0 = 92) ∧ ((ab_st r i).length ≤ 2000 → P i (ab_st r i))) (hP3 : ∀ i r, P (i + 1) r → ¬ r.getD i 0 = 92 → P i r) {x1 : Option Value} {y2 : Int32} : ∀ m (M : mm_M) (r : List Nat) (x : Nat → Int32) (A : Nat → Nat → Int32), P m r → mo_is M0 M x A → ro_is x A r → x 11 = nI 0 →
    (∀ M' r' x' A', te_ab m r = some r' → mo_is M0 M' x' A' → fx [8, 10, 11] x x' → fa [3, 4, 6] A A' → ro_is x' A' r' → x' 11 = nI 0 → mm_Go l sc Y_Mo_abstracted 0 0 M' [some (.ref 54), x1, some (.int y2), some (.int (nI 0))] [] 65 Q) →
    (∀ M' x' A', te_ab m r = none → mo_is M0 M' x' A' → fx [8, 10, 11] x x' → fa [3, 4, 6] A A' → x' 11 = nI 1 → mm_Go l sc Y_Mo_abstracted 0 0 M' [some (.ref 54), x1, some (.int y2), some (.int (nI 0))] [] 65 Q) →
    mm_Go l sc Y_Mo_abstracted 0 0 M [some (.ref 54), x1, some (.int y2), some (.int (nI 1))] [] 53 Q := by
  intro m
  induction m with
  | zero =>
    intro M r x A hP h hR h11 hQ hN
    obtain ⟨p1, p2, p3, p4⟩ := hP1 _ _ hP
    refine mg_run 1 rfl ?_
    refine mg_zeq (a := 1) rfl (by decide) (fun c => absurd c (by decide)) (fun _ => ?_)
    refine mg_run 1 rfl ?_
    refine mg_callV [] rfl rfl rfl h.2.1 rfl rfl rfl rfl (c_Mo_absN h hR p1 (fun j => p4 j (Nat.zero_le j)) ?_)
    refine mg_run 3 rfl ?_
    refine mg_zeq (a := 0) rfl (by decide) (fun _ => ?_) (fun c => absurd c (by decide))
    exact hQ M r x A rfl h (fx.rf _ _) (fa.rf _ _) hR h11
  | succ m ih =>
    intro M r x A hP h hR h11 hQ hN
    obtain ⟨p1, p2, p3, p4⟩ := hP1 _ _ hP
    by_cases c : r.getD m 0 = 92
    · obtain ⟨d1, d2, d3⟩ := hP2 _ _ hP c
      refine mg_run 1 rfl ?_
      refine mg_zeq (a := 1) rfl (by decide) (fun c => absurd c (by decide)) (fun _ => ?_)
      refine mg_run 1 rfl ?_
      refine mg_callV [] rfl rfl rfl h.2.1 rfl rfl rfl rfl (c_Mo_absS h hR p1 p2 p3 d1 c (fun j hj => p4 j (by omega)) d2 (fun o1 M1 y1 A1 q1 f1 g1 r1 e1 => ?_) (fun o1 M1 y1 A1 q1 f1 g1 e1 => ?_))
      · refine mg_run 2 rfl ?_
        refine ih M1 _ y1 A1 (d3 o1) q1 r1 e1 (fun M' r' x' A' k0 k1 k2 k3 k4 k5 => hQ M' r' x' A' ?_ k1 (f1.tr k2) (g1.tr k3) k4 k5) (fun M' x' A' k0 k1 k2 k3 k5 => hN M' x' A' ?_ k1 (f1.tr k2) (g1.tr k3) k5)
        · rw [te_ab, if_pos c, if_pos o1]
          exact k0
        · rw [te_ab, if_pos c, if_pos o1]
          exact k0
      · refine mg_run 3 rfl ?_
        refine mg_zeq (a := 0) rfl (by decide) (fun _ => ?_) (fun c => absurd c (by decide))
        refine hN M1 y1 A1 ?_ q1 f1 g1 e1
        rw [te_ab, if_pos c, if_neg (by omega)]
    · refine ih M r x A (hP3 _ _ hP c) h hR h11 (fun M' r' x' A' k0 k1 k2 k3 k4 k5 => hQ M' r' x' A' ?_ k1 k2 k3 k4 k5) (fun M' x' A' k0 k1 k2 k3 k5 => hN M' x' A' ?_ k1 k2 k3 k5)
      · rw [te_ab, if_neg c]
        exact k0
      · rw [te_ab, if_neg c]
        exact k0
theorem c_Mo_abstracted (P : Nat → List Nat → Prop) (hP1 : ∀ m r, P m r → (∀ i, r.getD i 0 < 10000) ∧ (∀ i, i < r.length → ¬ r.getD i 0 = 0) ∧ cl r ∧ ∀ j, m ≤ j → ¬ r.getD j 0 = 92)
    (hP2 : ∀ i r, P (i + 1) r → r.getD i 0 = 92 → i < r.length ∧ (∀ j, i + 1 ≤ j → j < te_en r (i + 1) → te_en r j ≤ te_en r (i + 1) ∧ ¬ r.getD j 0 = 92) ∧ ((ab_st r i).length ≤ 2000 → P i (ab_st r i))) (hP3 : ∀ i r, P (i + 1) r → ¬ r.getD i 0 = 92 → P i r) (h : md_is M0 M sl tp pl o th) {a : Nat} (ha : a < 12) (hn : 0 < (sl a).length) (hPr : P (sl a).length (sl a))
    (hQ : ∀ r', te_ab (sl a).length (sl a) = some r' → ∀ M', md_is M0 M' (sl_up sl a r') tp pl o 0 → Q (.inl (some (.int (nI r'.length)))) M')
    (hN : te_ab (sl a).length (sl a) = none → ∀ M', md_is M0 M' sl tp pl o 2 → Q (.inl (some (.int (nI 0)))) M') : mm_Ct l sc Y_Mo_abstracted M [.ref 54, .int (nI a)] Q := by
  obtain ⟨x, A, h1, h2, h3, h4, h5, h6⟩ := h
  obtain ⟨a1, a2, a3⟩ := h2 a ha
  refine mm_by k_Mo_abstracted w_Mo_abstracted rfl rfl ?_
  refine mg_run 1 rfl ?_
  refine mg_callS [.int (nI a)] rfl rfl rfl rfl rfl rfl (c_Mo_isSlot (fun _ => ?_) (fun e => absurd e (no_nI ha)))
  refine mg_zne rfl (by decide) (fun _ => ?_) (fun h => absurd h (by decide))
  refine mg_run 5 rfl ?_
  refine mg_zne (a := 0) rfl (by decide) (fun h => absurd h (by decide)) (fun _ => ?_)
  refine mg_run 1 rfl ?_
  refine mg_get rfl rfl h1.2.1 rfl ?_
  refine mg_run 1 rfl ?_
  refine mr_ild 2 rfl h1 (by decide) (show a < 12 from ha) ?_
  rw [a2]
  refine mg_zne rfl (by omega) (fun _ => ?_) (fun h => absurd h (by omega))
  refine mg_run 1 rfl ?_
  refine mg_callV [.int (nI 0), .int (nI 0)] rfl rfl rfl h1.2.1 rfl rfl rfl rfl (c_Mo_throwing h1 (a := 0) (b := 0) (by decide) (by decide) (fun _ _ M1 q1 => ?_) (fun h => absurd h (by decide)) (fun _ h => absurd h (by decide)))
  refine mg_zeq rfl (by decide) (fun _ => ?_) (fun h => absurd h (by decide))
  refine mg_run 2 rfl ?_
  refine mg_callV [.int (nI a)] rfl rfl rfl q1.2.1 rfl rfl rfl rfl (c_Mo_load ha q1 h2 (fun M2 x2 A2 q2 f2 g2 r2 => ?_))
  refine mg_run 2 rfl ?_
  refine mr_put rfl rfl q2 rfl rfl rfl (fun M3 q3 => ?_)
  refine mg_run 2 rfl ?_
  have f3 : fx [11] x2 (upd x2 11 (nI 0)) := fx.up (by decide) _ _
  have S2 : st_is A2 sl := h2.fr g2 (by decide) (by decide)
  refine lp_Mo_abstracted P hP1 hP2 hP3 _ M3 (sl a) _ A2 hPr q3 (r2.fr f3 (fa.rf [] A2) (by decide) (by decide)) pk_us (fun M4 r' x4 A4 k0 q4 f4 g4 r4 e4 => ?_) (fun M4 x4 A4 k0 q4 f4 g4 e4 => ?_)
  · have S4 : st_is A4 sl := S2.fr g4 (by decide) (by decide)
    refine mg_run 3 rfl ?_
    refine mg_get rfl rfl q4.2.1 rfl ?_
    rw [e4]
    refine mg_callV [.int (nI 0), .int (nI 0)] rfl rfl rfl q4.2.1 rfl rfl rfl rfl (c_Mo_throwing q4 (a := 0) (b := 0) (by decide) (by decide) (fun _ _ M5 q5 => ?_) (fun h => absurd h (by decide)) (fun _ h => absurd h (by decide)))
    refine mg_zeq rfl (by decide) (fun _ => ?_) (fun h => absurd h (by decide))
    refine mg_run 2 rfl ?_
    have f5 : fx [0] x4 (upd x4 0 (nI 0)) := fx.up (by decide) _ _
    have R5 := r4.fr f5 (fa.rf [] A4) (by decide) (by decide)
    refine mg_callV [.int (nI a)] rfl rfl rfl q5.2.1 rfl rfl rfl rfl (c_Mo_store ha q5 R5 S4 (fun M6 A6 q6 g6 S6 => ?_))
    refine mg_run 1 rfl ?_
    refine mg_get rfl rfl q6.2.1 rfl ?_
    rw [R5.1]
    refine mg_ir rfl rfl rfl rfl (hQ r' k0 M6 ?_)
    have F : fx [0, 8, 10, 11] x (upd x4 0 (nI 0)) := ((((fx.up (by decide) _ _).tr (f2.wk (by decide))).tr (f3.wk (by decide))).tr (f4.wk (by decide))).tr (f5.wk (by decide))
    have G : fa [1, 2, 3, 4, 6] A A6 := ((g2.wk (by decide)).tr (g4.wk (by decide))).tr (g6.wk (by decide))
    exact md_fr h3 h4 q6 S6 F G (by decide) (by decide) (by decide) ((F 4 (by decide)).trans h5) pk_us
  · have S4 : st_is A4 sl := S2.fr g4 (by decide) (by decide)
    refine mg_run 3 rfl ?_
    refine mg_get rfl rfl q4.2.1 rfl ?_
    rw [e4]
    refine mg_callV [.int (nI 0), .int (nI 1)] rfl rfl rfl q4.2.1 rfl rfl rfl rfl (c_Mo_throwing q4 (a := 0) (b := 1) (by decide) (by decide) (fun _ h => absurd h (by decide)) (fun h => absurd h (by decide)) (fun _ _ M5 q5 => ?_))
    refine mg_zeq rfl (by decide) (fun h => absurd h (by decide)) (fun _ => ?_)
    refine mg_run 1 rfl ?_
    refine mg_ir rfl rfl rfl rfl (hN k0 M5 ?_)
    have f5 : fx [0] x4 (upd x4 0 (nI 2)) := fx.up (by decide) _ _
    have F : fx [0, 8, 10, 11] x (upd x4 0 (nI 2)) := ((((fx.up (by decide) _ _).tr (f2.wk (by decide))).tr (f3.wk (by decide))).tr (f4.wk (by decide))).tr (f5.wk (by decide))
    have G : fa [3, 4, 6] A A4 := (g2.wk (by decide)).tr (g4.wk (by decide))
    exact md_fr h3 h4 q5 S4 F G (by decide) (by decide) (by decide) ((F 4 (by decide)).trans h5) pk_us
theorem c_Mo_abstractedX (h : md_is M0 M sl tp pl o th) {z : Int32} (hx : no_slot z) (hQ : ∀ M', md_is M0 M' sl tp pl o 1 → Q (.inl (some (.int (nI 0)))) M') : mm_Ct l sc Y_Mo_abstracted M [.ref 54, .int z] Q := by
  obtain ⟨x, A, h1, h2, h3, h4, h5, h6⟩ := h
  refine mm_by k_Mo_abstracted w_Mo_abstracted rfl rfl ?_
  refine mg_run 1 rfl ?_
  refine mg_callS [.int z] rfl rfl rfl rfl rfl rfl (c_Mo_isSlot (fun e => absurd hx e) (fun _ => ?_))
  refine mg_zne rfl (by decide) (fun h => absurd h (by decide)) (fun _ => ?_)
  refine mg_run 6 rfl ?_
  refine mg_zne (a := 1) rfl (by decide) (fun _ => ?_) (fun h => absurd h (by decide))
  refine mg_run 1 rfl ?_
  refine mg_callV [.int (nI 1), .int (nI 0)] rfl rfl rfl h1.2.1 rfl rfl rfl rfl (c_Mo_throwing h1 (a := 1) (b := 0) (by decide) (by decide) (fun h => absurd h (by decide)) (fun _ M1 q1 => ?_) (fun h => absurd h (by decide)))
  refine mg_zeq rfl (by decide) (fun h => absurd h (by decide)) (fun _ => ?_)
  refine mg_run 1 rfl ?_
  exact mg_ir rfl rfl rfl rfl (hQ M1 (md_th h2 h3 h4 h5 q1))
theorem c_Mo_abstractedE (h : md_is M0 M sl tp pl o th) {a : Nat} (ha : a < 12) (hn : (sl a).length = 0) (hQ : ∀ M', md_is M0 M' sl tp pl o 2 → Q (.inl (some (.int (nI 0)))) M') : mm_Ct l sc Y_Mo_abstracted M [.ref 54, .int (nI a)] Q := by
  obtain ⟨x, A, h1, h2, h3, h4, h5, h6⟩ := h
  obtain ⟨a1, a2, a3⟩ := h2 a ha
  refine mm_by k_Mo_abstracted w_Mo_abstracted rfl rfl ?_
  refine mg_run 1 rfl ?_
  refine mg_callS [.int (nI a)] rfl rfl rfl rfl rfl rfl (c_Mo_isSlot (fun _ => ?_) (fun e => absurd e (no_nI ha)))
  refine mg_zne rfl (by decide) (fun _ => ?_) (fun h => absurd h (by decide))
  refine mg_run 5 rfl ?_
  refine mg_zne (a := 0) rfl (by decide) (fun h => absurd h (by decide)) (fun _ => ?_)
  refine mg_run 1 rfl ?_
  refine mg_get rfl rfl h1.2.1 rfl ?_
  refine mg_run 1 rfl ?_
  refine mr_ild 2 rfl h1 (by decide) (show a < 12 from ha) ?_
  rw [a2]
  refine mg_zne rfl (by omega) (fun h => absurd h (by omega)) (fun _ => ?_)
  refine mg_run 2 rfl ?_
  refine mg_callV [.int (nI 0), .int (nI 1)] rfl rfl rfl h1.2.1 rfl rfl rfl rfl (c_Mo_throwing h1 (a := 0) (b := 1) (by decide) (by decide) (fun _ h => absurd h (by decide)) (fun h => absurd h (by decide)) (fun _ _ M1 q1 => ?_))
  refine mg_zeq rfl (by decide) (fun h => absurd h (by decide)) (fun _ => ?_)
  refine mg_run 1 rfl ?_
  exact mg_ir rfl rfl rfl rfl (hQ M1 (md_th h2 h3 h4 h5 q1))
end
