/-! The reference: a step. -/
section
variable {r : List Nat}
theorem en_app {i : Nat} (hi : i < r.length) (e : r.getD i 0 = 64) : te_en r i = te_en r (te_en r (i + 1)) := by
  unfold te_en
  rw [te_drop hi, te_sc, if_pos e]
  have h := te_sc_add (r.drop (i + 1)) 1 1
  rw [List.drop_drop] at h
  rw [show 0 + 2 = 1 + 1 by rfl, h]
  omega
theorem en_abs {i : Nat} (hi : i < r.length) (e : r.getD i 0 = 92) : te_en r i = te_en r (i + 1) := by
  unfold te_en
  rw [te_drop hi, te_sc, if_neg (by omega), if_pos e]
  rw [show 0 + 1 = 1 by rfl]
  omega
theorem en_leaf {i : Nat} (hi : i < r.length) (e : ¬ r.getD i 0 = 64) (e2 : ¬ r.getD i 0 = 92) : te_en r i = i + 1 := by
  unfold te_en
  rw [te_drop hi, te_sc, if_neg e, if_neg e2, te_sc0]
theorem nd_s {i o : Nat} (hi : i < r.length) (h : te_nd (r.drop i) (o + 1) = 0) : te_nd (r.drop (i + 1)) (if r.getD i 0 = 64 then o + 2 else if r.getD i 0 = 92 then o + 1 else o) = 0 := by
  rw [te_drop hi, te_nd] at h
  exact h
theorem nd_en {i o : Nat} (h : te_nd (r.drop i) (o + 1) = 0) : te_nd (r.drop i) 1 = 0 ∧ te_nd (r.drop (te_en r i)) o = 0 := by
  rw [show o + 1 = 1 + o by omega] at h
  obtain ⟨h1, h2⟩ := te_nd_add _ 1 o h
  rw [List.drop_drop] at h2
  exact ⟨h1, h2⟩
theorem nd_1 {i o : Nat} (h : te_nd (r.drop i) (o + 1) = 0) : te_nd (r.drop i) 1 = 0 := (nd_en h).1
theorem rh_92 {i : Nat} (h : te_rh r i = 92) : r.getD i 0 = 64 ∧ r.getD (i + 1) 0 = 92 := by
  unfold te_rh at h
  repeat' split at h
  all_goals first | (exact absurd h (by decide)) | exact ⟨by assumption, by assumption⟩
theorem rh_73 {i : Nat} (h : te_rh r i = 73) : r.getD i 0 = 64 ∧ r.getD (i + 1) 0 = 73 := by
  unfold te_rh at h
  repeat' split at h
  all_goals first | (exact absurd h (by decide)) | exact ⟨by assumption, by assumption⟩
theorem rh_75 {i : Nat} (h : te_rh r i = 75) : r.getD i 0 = 64 ∧ r.getD (i + 1) 0 = 64 ∧ r.getD (i + 2) 0 = 75 := by
  unfold te_rh at h
  repeat' split at h
  all_goals first | (exact absurd h (by decide)) | exact ⟨by assumption, by assumption, by assumption⟩
theorem rh_83 {i : Nat} (h : te_rh r i = 83) : r.getD i 0 = 64 ∧ r.getD (i + 1) 0 = 64 ∧ r.getD (i + 2) 0 = 64 ∧ r.getD (i + 3) 0 = 83 := by
  unfold te_rh at h
  repeat' split at h
  all_goals first | (exact absurd h (by decide)) | exact ⟨by assumption, by assumption, by assumption, by assumption⟩
theorem rh_or (r : List Nat) (i : Nat) : te_rh r i = 0 ∨ te_rh r i = 92 ∨ te_rh r i = 73 ∨ te_rh r i = 75 ∨ te_rh r i = 83 := by
  unfold te_rh
  repeat' split
  all_goals simp
theorem te_pt_app {s e f : Nat} (h1 : s ≤ e) (h2 : e ≤ f) : te_pt r s f = te_pt r s e ++ te_pt r e f := by
  unfold te_pt
  rw [show f - s = (e - s) + (f - e) by omega, List.take_add, List.drop_drop, show s + (e - s) = e by omega]
end
section
variable {l : Launch} {sc : Nat × (Nat → Int32)} {M0 : mm_M} {Q : mm_O → mm_M → Prop} {r : List Nat}
theorem c_Mo_spread {M : mm_M} {x : Nat → Int32} {A : Nat → Nat → Int32} {out : List Nat} (hv : ∀ i, r.getD i 0 < 10000) (h : mo_is M0 M x A) (hR : ro_is x A r) (hx : nx_is x A out) {i : Nat} (hn : te_nd (r.drop (i + 4)) 3 = 0)
    (hQ : ∀ M' x' A', mo_is M0 M' x' A' → fx [10, 11] x x' → fa [4] A A' → nx_is x' A' (out ++ ([64] ++ [64] ++ te_pt r (i + 4) (te_en r (i + 4)) ++ te_pt r (te_en r (te_en r (i + 4))) (te_en r (te_en r (te_en r (i + 4)))) ++ [64] ++ te_pt r (te_en r (i + 4)) (te_en r (te_en r (te_en r (i + 4)))))) → Q (.inl none) M') : mm_Ct l sc Y_Mo_spread M [.ref 54, .int (nI i)] Q := by
  obtain ⟨na, hn2⟩ := nd_en hn
  obtain ⟨nb, nc⟩ := nd_en hn2
  refine mm_by k_Mo_spread w_Mo_spread rfl rfl ?_
  refine mg_run 2 rfl ?_
  refine mg_addN rfl ?_
  refine mg_run 3 rfl ?_
  refine mg_callV [.int (nI (i + 4))] rfl rfl rfl h.2.1 rfl rfl rfl rfl (c_Mo_behind h hR hv na ?_)
  refine mg_run 3 rfl ?_
  refine mg_callV [.int (nI (te_en r (i + 4)))] rfl rfl rfl h.2.1 rfl rfl rfl rfl (c_Mo_behind h hR hv nb ?_)
  refine mg_run 3 rfl ?_
  refine mg_callV [.int (xc 64)] rfl rfl rfl h.2.1 rfl rfl rfl rfl (c_Mo_put h hx (fun M1 x1 A1 a1 a2 a3 a4 => ?_))
  have R1 := hR.fr a2 a3 (by decide) (by decide)
  refine mg_run 2 rfl ?_
  refine mg_callV [.int (xc 64)] rfl rfl rfl a1.2.1 rfl rfl rfl rfl (c_Mo_put a1 a4 (fun M2 x2 A2 b1 b2 b3 b4 => ?_))
  have R2 := R1.fr b2 b3 (by decide) (by decide)
  refine mg_run 2 rfl ?_
  refine mg_callV [.int (nI (i + 4))] rfl rfl rfl b1.2.1 rfl rfl rfl rfl (c_Mo_putPart hv b1 R2 b4 na (fun M3 x3 A3 c1 c2 c3 c4 => ?_))
  have R3 := R2.fr c2 c3 (by decide) (by decide)
  refine mg_run 2 rfl ?_
  refine mg_callV [.int (nI (te_en r (te_en r (i + 4))))] rfl rfl rfl c1.2.1 rfl rfl rfl rfl (c_Mo_putPart hv c1 R3 c4 nc (fun M4 x4 A4 d1 d2 d3 d4 => ?_))
  have R4 := R3.fr d2 d3 (by decide) (by decide)
  refine mg_run 2 rfl ?_
  refine mg_callV [.int (xc 64)] rfl rfl rfl d1.2.1 rfl rfl rfl rfl (c_Mo_put d1 d4 (fun M5 x5 A5 e1 e2 e3 e4 => ?_))
  have R5 := R4.fr e2 e3 (by decide) (by decide)
  refine mg_run 2 rfl ?_
  refine mg_callV [.int (nI (te_en r (i + 4)))] rfl rfl rfl e1.2.1 rfl rfl rfl rfl (c_Mo_putPart hv e1 R5 e4 nb (fun M6 x6 A6 f1 f2 f3 f4 => ?_))
  have R6 := R5.fr f2 f3 (by decide) (by decide)
  refine mg_run 2 rfl ?_
  refine mg_callV [.int (nI (te_en r (te_en r (i + 4))))] rfl rfl rfl f1.2.1 rfl rfl rfl rfl (c_Mo_putPart hv f1 R6 f4 nc (fun M7 x7 A7 g1 g2 g3 g4 => ?_))
  refine mg_vr rfl rfl rfl rfl ?_
  refine hQ M7 x7 A7 g1 ((((((a2.tr b2).tr c2).tr d2).tr e2).tr f2).tr g2) ((((((a3.tr b3).tr c3).tr d3).tr e3).tr f3).tr g3) ?_
  rw [te_pt_app (te_en_ge r (te_en r (i + 4))) (te_en_ge r (te_en r (te_en r (i + 4))))]
  simp only [List.append_assoc] at g4 ⊢
  exact g4
theorem lp_Mo_step1 {i : Nat} (hi : i ≤ r.length) {x2 : Int32} : ∀ m k (M : mm_M) (x : Nat → Int32) (A : Nat → Nat → Int32) (out : List Nat), mo_is M0 M x A → ro_is x A r → nx_is x A out → i - k = m → k ≤ i →
    (∀ M' x' A', mo_is M0 M' x' A' → fx [10, 11] x x' → fa [4] A A' → nx_is x' A' (out ++ te_pt r k i) → mm_Go l sc Y_Mo_step 0 0 M' [some (.ref 54), some (.int (nI i)), some (.int x2), some (.int (nI i))] [] 44 Q) →
    mm_Go l sc Y_Mo_step 0 0 M [some (.ref 54), some (.int (nI i)), some (.int x2), some (.int (nI k))] [] 23 Q := by
  intro m
  induction m with
  | zero =>
    intro k M x A out h hR hn hm hk hQ
    have h4 := hR.2.1
    have e : k = i := by omega
    subst e
    refine mg_run 2 rfl ?_
    refine mg_ge rfl (by omega) (by omega) (fun _ => ?_) (fun h => absurd h (by omega))
    refine hQ M x A h (fx.rf _ _) (fa.rf _ _) ?_
    rw [te_pt, hm, List.take_zero, List.append_nil]
    exact hn
  | succ m ih =>
    intro k M x A out h hR hn hm hk hQ
    have h4 := hR.2.1
    refine mg_run 2 rfl ?_
    refine mg_ge rfl (by omega) (by omega) (fun h => absurd h (by omega)) (fun hlt => ?_)
    refine mg_run 2 rfl ?_
    refine mg_get rfl rfl h.2.1 rfl ?_
    refine mg_run 1 rfl ?_
    refine mr_ild 3 rfl h (by decide) (show k < 2001 by omega) ?_
    rw [hR.2.2 k (by omega)]
    refine mg_callV [.int (xc (r.getD k 0))] rfl rfl rfl h.2.1 rfl rfl rfl rfl (c_Mo_put h hn (fun M1 x1 A1 p1 p2 p3 p4 => ?_))
    refine mg_incN rfl rfl rfl ?_
    refine mg_run 1 rfl ?_
    refine ih (k + 1) M1 x1 A1 _ p1 (hR.fr p2 p3 (by decide) (by decide)) p4 (by omega) (by omega) (fun M' x' A' q1 q2 q3 q4 => hQ M' x' A' q1 (p2.tr q2) (p3.tr q3) ?_)
    have e : te_pt r k i = r.getD k 0 :: te_pt r (k + 1) i := by
      unfold te_pt
      rw [te_drop (show k < r.length by omega), show i - k = (i - (k + 1)) + 1 by omega, List.take_succ_cons]
    rw [e]
    rw [List.append_assoc] at q4
    exact q4
theorem lp_Mo_step2 {x1 x2 : Int32} : ∀ m k (M : mm_M) (x : Nat → Int32) (A : Nat → Nat → Int32) (out : List Nat), mo_is M0 M x A → ro_is x A r → nx_is x A out → r.length - k = m → k ≤ r.length →
    ((out ++ r.drop k).length ≤ 2000 → ∀ M' x' A', mo_is M0 M' x' A' → fx [8, 10, 11] x x' → fa [3, 4] A A' → ro_is x' A' (out ++ r.drop k) → Q (.inl (some (.int (nI 0)))) M') →
    (2000 < (out ++ r.drop k).length → ∀ M' x' A', mo_is M0 M' x' A' → fx [8, 10, 11] x x' → fa [3, 4] A A' → ro_is x' A' r → Q (.inl (some (.int (nI 3)))) M') →
    mm_Go l sc Y_Mo_step 0 0 M [some (.ref 54), some (.int x1), some (.int x2), some (.int (nI k))] [] 107 Q := by
  intro m
  induction m with
  | zero =>
    intro k M x A out h hR hn hm hk hQ hN
    have h4 := hR.2.1
    have e : r.drop k = [] := List.drop_eq_nil_of_le (by omega)
    rw [e, List.append_nil] at hQ hN
    refine mg_run 2 rfl ?_
    refine mg_get rfl rfl h.2.1 rfl ?_
    rw [hR.1]
    refine mg_ge rfl (by omega) (by omega) (fun _ => ?_) (fun h => absurd h (by omega))
    obtain ⟨b, b1, b2, b3, b4, b5, b6⟩ := id hn
    refine mg_run 1 rfl ?_
    refine mg_get rfl rfl h.2.1 rfl ?_
    rw [b5]
    refine mg_zeq rfl (by omega) (fun c => ?_) (fun c => ?_)
    · obtain ⟨o1, -⟩ := b1.ok c
      refine mg_run 1 rfl ?_
      refine mg_callV [] rfl rfl rfl h.2.1 rfl rfl rfl rfl (c_Mo_settle h hn o1 (fun M1 x1 A1 p1 p2 p3 p4 => ?_))
      refine mg_run 1 rfl ?_
      exact mg_ir rfl rfl rfl rfl (hQ o1 M1 x1 A1 p1 (p2.wk (by decide)) (p3.wk (by decide)) p4)
    · refine mg_run 1 rfl ?_
      exact mg_ir rfl rfl rfl rfl (hN (b1.not c) M x A h (fx.rf _ _) (fa.rf _ _) hR)
  | succ m ih =>
    intro k M x A out h hR hn hm hk hQ hN
    have h4 := hR.2.1
    refine mg_run 2 rfl ?_
    refine mg_get rfl rfl h.2.1 rfl ?_
    rw [hR.1]
    refine mg_ge rfl (by omega) (by omega) (fun h => absurd h (by omega)) (fun hlt => ?_)
    refine mg_run 2 rfl ?_
    refine mg_get rfl rfl h.2.1 rfl ?_
    refine mg_run 1 rfl ?_
    refine mr_ild 3 rfl h (by decide) (show k < 2001 by omega) ?_
    rw [hR.2.2 k (by omega)]
    refine mg_callV [.int (xc (r.getD k 0))] rfl rfl rfl h.2.1 rfl rfl rfl rfl (c_Mo_put h hn (fun M1 x1 A1 p1 p2 p3 p4 => ?_))
    refine mg_incN rfl rfl rfl ?_
    refine mg_run 1 rfl ?_
    have e : out ++ [r.getD k 0] ++ r.drop (k + 1) = out ++ r.drop k := by rw [te_drop hlt, List.append_assoc]; rfl
    refine ih (k + 1) M1 x1 A1 _ p1 (hR.fr p2 p3 (by decide) (by decide)) p4 (by omega) (by omega) (fun o1 M' x' A' q1 q2 q3 q4 => ?_) (fun o1 M' x' A' q1 q2 q3 q4 => ?_)
    · rw [e] at o1 q4
      exact hQ o1 M' x' A' q1 ((p2.wk (by decide)).tr q2) ((p3.wk (by decide)).tr q3) q4
    · rw [e] at o1
      exact hN o1 M' x' A' q1 ((p2.wk (by decide)).tr q2) ((p3.wk (by decide)).tr q3) q4
end
