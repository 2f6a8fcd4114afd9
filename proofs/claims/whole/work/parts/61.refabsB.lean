/-! The reference: abstractOne against the class's abstraction. -/
section
variable {r : List Nat} {s e : Nat}
theorem te_en_gt {i : Nat} (h : i < r.length) : i < te_en r i := by
  unfold te_en
  rw [te_drop h, te_sc]
  omega
theorem ab_U_mono : ∀ m j, ab_U r s j ≤ ab_U r s (j + m) := by
  intro m
  induction m with
  | zero => intro j; exact Nat.le_refl _
  | succ m ih =>
    intro j
    have h1 := ih j
    show ab_U r s j ≤ ab_U r s (j + m + 1)
    rw [ab_U]
    omega
theorem ab_U_z : ∀ m j, te_u r m (s + j) = 0 → ab_U r s (j + m) = ab_U r s j := by
  intro m
  induction m with
  | zero => intro j _; rfl
  | succ m ih =>
    intro j h
    rw [te_u] at h
    by_cases c : r.getD (s + j) 0 = 1000
    · rw [if_pos c] at h
      omega
    · rw [if_neg c] at h
      have h1 := ih (j + 1) h
      rw [show j + (m + 1) = j + 1 + m by omega, h1, ab_U, if_neg c]
      rfl
theorem ab_U_p : ∀ m j, ¬ te_u r m (s + j) = 0 → ab_U r s j < ab_U r s (j + m) := by
  intro m
  induction m with
  | zero => intro j h; exact absurd rfl h
  | succ m ih =>
    intro j h
    rw [te_u] at h
    rw [show j + (m + 1) = j + 1 + m by omega]
    by_cases c : r.getD (s + j) 0 = 1000
    · have h1 := ab_U_mono (r := r) (s := s) m (j + 1)
      rw [ab_U, if_pos c] at h1
      omega
    · rw [if_neg c] at h
      have h1 := ih (j + 1) h
      rw [ab_U, if_neg c] at h1
      omega
theorem ab_U_0 {p q : Nat} (h1 : s ≤ p) (h2 : p ≤ q) (h : te_u r (q - p) p = 0) : ab_U r s (q - s) ≤ ab_U r s (p - s) := by
  have h3 := ab_U_z (r := r) (s := s) (q - p) (p - s) (by rw [show s + (p - s) = p by omega]; exact h)
  rw [show p - s + (q - p) = q - s by omega] at h3
  exact Nat.le_of_eq h3
theorem ab_U_1 {p q : Nat} (h1 : s ≤ p) (h2 : p ≤ q) (h : ¬ te_u r (q - p) p = 0) : ¬ ab_U r s (q - s) ≤ ab_U r s (p - s) := by
  have h3 := ab_U_p (r := r) (s := s) (q - p) (p - s) (by rw [show s + (p - s) = p by omega]; exact h)
  rw [show p - s + (q - p) = q - s by omega] at h3
  omega
theorem ab_wl_k : ∀ m i w, e - i = m → i ≤ w → w ≤ e → ab_wl r s e m i w = ab_wl r s e (e - w) w w := by
  intro m
  induction m with
  | zero =>
    intro i w h1 h2 h3
    rw [show e - w = 0 by omega]
    rfl
  | succ m ih =>
    intro i w h1 h2 h3
    by_cases c : i < w
    · rw [ab_wl, if_pos c]
      exact ih (i + 1) w (by omega) (by omega) h3
    · have ew : w = i := by omega
      subst ew
      rw [h1]
theorem ab_wl_s {p w : Nat} {q : List Nat} (hi : p < e) (hw : ab_w r s e p = (q, w)) (h1 : p < w) (h2 : w ≤ e) : ab_wl r s e (e - p) p p = q ++ ab_wl r s e (e - w) w w := by
  rw [show e - p = (e - (p + 1)) + 1 by omega, ab_wl, if_neg (Nat.lt_irrefl p), hw]
  show q ++ ab_wl r s e (e - (p + 1)) (p + 1) w = _
  rw [ab_wl_k _ (p + 1) w rfl (by omega) h2]
def ab_k (r : List Nat) (e : Nat) : Nat → List Nat → Prop
  | i, [] => i = e
  | i, p :: st => p = i ∧ p < e ∧ ab_k r e (te_en r p) st
theorem ab_k_len (he : e ≤ r.length) : ∀ (st : List Nat) (i : Nat), ab_k r e i st → i + st.length ≤ e := by
  intro st
  induction st with
  | nil => intro i h; exact Nat.le_of_eq h
  | cons p st ih =>
    intro i h
    obtain ⟨h1, h2, h3⟩ := h
    have h4 := ih _ h3
    have h5 := te_en_gt (r := r) (i := p) (by omega)
    rw [List.length_cons]
    omega
end
section
variable {l : Launch} {sc : Nat × (Nat → Int32)} {M0 M : mm_M} {Q : mm_O → mm_M → Prop} {r : List Nat}
theorem lp_Mo_ab3 (hv : ∀ i, r.getD i 0 < 10000) (hz : ∀ i, i < r.length → ¬ r.getD i 0 = 0) (hcl : cl r) {s e : Nat} {y1 : Int32} (he : e ≤ r.length) (hE : ∀ i, s ≤ i → i < e → te_en r i ≤ e ∧ ¬ r.getD i 0 = 92) : ∀ m i (st : List Nat) (x3 x4 x5 : Option Value) (M : mm_M) (x : Nat → Int32) (A : Nat → Nat → Int32) (out : List Nat), mo_is M0 M x A → ro_is x A r → nx_is x A out → sk_in (A 6) st → ab_k r e i st → s ≤ i → e - i ≤ m →
    (∀ M' x' A' y3 y4 y5, mo_is M0 M' x' A' → fx [10, 11] x x' → fa [4, 6] A A' → nx_is x' A' (out ++ ab_wl r s e (e - i) i i) → mm_Go l sc Y_Mo_abstractOne 0 0 M' [some (.ref 54), some (.int y1), some (.int (nI 0)), y3, y4, y5] [] 215 Q) →
    mm_Go l sc Y_Mo_abstractOne 0 0 M [some (.ref 54), some (.int y1), some (.int (nI st.length)), x3, x4, x5] [] 72 Q := by
  have stop : ∀ (i : Nat) (x3 x4 x5 : Option Value) (M : mm_M) (x : Nat → Int32) (A : Nat → Nat → Int32) (out : List Nat), mo_is M0 M x A → nx_is x A out → i = e →
      (∀ M' x' A' y3 y4 y5, mo_is M0 M' x' A' → fx [10, 11] x x' → fa [4, 6] A A' → nx_is x' A' (out ++ ab_wl r s e (e - i) i i) → mm_Go l sc Y_Mo_abstractOne 0 0 M' [some (.ref 54), some (.int y1), some (.int (nI 0)), y3, y4, y5] [] 215 Q) →
      mm_Go l sc Y_Mo_abstractOne 0 0 M [some (.ref 54), some (.int y1), some (.int (nI 0)), x3, x4, x5] [] 72 Q := by
    intro i x3 x4 x5 M x A out h hn hi hQ
    refine mg_run 1 rfl ?_
    refine mg_zle rfl (by decide) (fun _ => ?_) (fun h => absurd h (by decide))
    refine hQ M x A _ _ _ h (fx.rf _ _) (fa.rf _ _) ?_
    rw [show e - i = 0 by omega, ab_wl, List.append_nil]
    exact hn
  intro m
  induction m with
  | zero =>
    intro i st x3 x4 x5 M x A out h hR hn hk hst hs hm hQ
    cases st with
    | nil => exact stop i x3 x4 x5 M x A out h hn hst hQ
    | cons p st => exact absurd hst.2.1 (by have := hst.1; omega)
  | succ m ih =>
    intro i st x3 x4 x5 M x A out h hR hn hk hst hs hm hQ
    have h4 := hR.2.1
    cases st with
    | nil => exact stop i x3 x4 x5 M x A out h hn hst hQ
    | cons p st =>
      obtain ⟨hpi, hpe, hst'⟩ := hst
      subst hpi
      have hpr : p < r.length := by omega
      obtain ⟨hE1, hE2⟩ := hE p hs hpe
      have gt := te_en_gt hpr
      have nd := hcl p hpr
      have hl := ab_k_len he _ _ hst'
      have hvp := hv p
      have hEp : ab_E r e p = te_en r p := if_pos hpe
      have nxt : ∀ (q : List Nat) (w : Nat) (st2 : List Nat) (y3 y4 y5 : Option Value) (M1 : mm_M) (x1' : Nat → Int32) (A1 : Nat → Nat → Int32), ab_w r s e p = (q, w) → p < w → w ≤ e → mo_is M0 M1 x1' A1 → fx [10, 11] x x1' → fa [4, 6] A A1 → nx_is x1' A1 (out ++ q) → sk_in (A1 6) st2 → ab_k r e w st2 →
          mm_Go l sc Y_Mo_abstractOne 0 0 M1 [some (.ref 54), some (.int y1), some (.int (nI st2.length)), y3, y4, y5] [] 212 Q := by
        intro q w st2 y3 y4 y5 M1 x1' A1 ew w1 w2 g gf ga gn gs gk
        refine mg_run 1 rfl ?_
        refine ih w st2 y3 y4 y5 M1 x1' A1 _ g (hR.fr gf ga (by decide) (by decide)) gn gs gk (by omega) (by omega) (fun M' x' A' z3 z4 z5 k1 k2 k3 k4 => hQ M' x' A' z3 z4 z5 k1 (gf.tr k2) (ga.tr k3) ?_)
        rw [ab_wl_s hpe ew w1 w2, ← List.append_assoc]
        exact k4
      refine mg_run 1 rfl ?_
      refine mg_zle (a := st.length + 1) rfl (by omega) (fun h => absurd h (by omega)) (fun _ => ?_)
      refine mg_decN rfl rfl rfl ?_
      refine mg_run 1 rfl ?_
      refine mg_get rfl rfl h.2.1 rfl ?_
      refine mg_run 1 rfl ?_
      refine mr_ild 6 rfl h (by decide) (show st.length < 2002 by omega) ?_
      rw [sk_top hk]
      refine mg_run 2 rfl ?_
      refine mg_get rfl rfl h.2.1 rfl ?_
      refine mg_run 1 rfl ?_
      refine mr_ild 3 rfl h (by decide) (show p < 2001 by omega) ?_
      rw [hR.2.2 p hpr]
      have hk' := sk_pop hk
      refine mg_if rfl (fun e1 => ?_) (fun e1 => ?_)
      · have c1 : ¬ r.getD p 0 = 1000 := fun h9 => e1 ((xc_0 hvp).mpr h9)
        refine mg_run 2 rfl ?_
        have hu := te_u_lt r (te_en r p - p) p
        refine mg_callV [.int (nI p)] rfl rfl rfl h.2.1 rfl rfl rfl rfl (c_Mo_isIn h hR hv nd ?_)
        refine mg_zne rfl (by omega) (fun c2 => ?_) (fun c2 => ?_)
        · have cU := ab_U_1 (s := s) hs (Nat.le_of_lt gt) (show ¬ te_u r (te_en r p - p) p = 0 by omega)
          have c64 : r.getD p 0 = 64 := by
            refine Decidable.byContradiction (fun c9 => ?_)
            rw [te_en_leaf hpr c9 hE2, show p + 1 - p = 1 by omega, te_u, if_neg c1, te_u] at c2
            omega
          obtain ⟨k1, k2⟩ := cl_app2 hcl hpr c64
          have en1 := te_en_app hpr c64
          have gt1 := te_en_gt (show p + 1 < r.length by omega)
          have gt2 := te_en_gt k2
          have nd1 := hcl (p + 1) (by omega)
          have hEf : ab_E r e (p + 1) = te_en r (p + 1) := if_pos (by omega)
          have hu2 := te_u_lt r (te_en r (p + 1) - (p + 1)) (p + 1)
          have spread : ¬ (r.getD (te_en r (p + 1)) 0 = 1000 ∧ ab_U r s (te_en r (p + 1) - s) ≤ ab_U r s (p + 1 - s)) →
              mm_Go l sc Y_Mo_abstractOne 0 0 M [some (.ref 54), some (.int y1), some (.int (nI st.length)), some (.int (nI p)), some (.int (nI (p + 1))), some (.int (nI (te_en r (p + 1))))] [] 174 Q := by
            intro cS
            refine mg_run 2 rfl ?_
            refine mg_callV [.int (xc 64)] rfl rfl rfl h.2.1 rfl rfl rfl rfl (c_Mo_put h hn (fun M1 y1 A1 a1 a2 a3 a4 => ?_))
            refine mg_run 2 rfl ?_
            refine mg_callV [.int (xc 64)] rfl rfl rfl a1.2.1 rfl rfl rfl rfl (c_Mo_put a1 a4 (fun M2 y2 A2 b1 b2 b3 b4 => ?_))
            refine mg_run 2 rfl ?_
            refine mg_callV [.int (xc 83)] rfl rfl rfl b1.2.1 rfl rfl rfl rfl (c_Mo_put b1 b4 (fun M3 y3 A3 d1 d2 d3 d4 => ?_))
            refine mg_run 1 rfl ?_
            refine mg_get rfl rfl d1.2.1 rfl ?_
            refine mg_run 2 rfl ?_
            refine mr_ist 6 rfl d1 (by decide) (show st.length < 2002 by omega) (fun M4 d5 => ?_)
            refine mg_run 1 rfl ?_
            refine mg_get rfl rfl d5.2.1 rfl ?_
            refine mg_run 2 rfl ?_
            refine mg_addN rfl ?_
            refine mg_run 1 rfl ?_
            refine mr_ist 6 rfl d5 (by decide) (show st.length + 1 < 2002 by omega) (fun M5 d6 => ?_)
            refine mg_incN rfl rfl rfl ?_
            have F3 : fa [4] A A3 := (a3.tr b3).tr d3
            have f6 : fa [6] A3 (aup (aup A3 6 (upd (A3 6) st.length (nI (te_en r (p + 1))))) 6 (upd (aup A3 6 (upd (A3 6) st.length (nI (te_en r (p + 1)))) 6) (st.length + 1) (nI (p + 1)))) := (fa.up (by decide) _ _).tr (fa.up (by decide) _ _)
            refine nxt ([64] ++ [64] ++ [83]) (p + 1) ((p + 1) :: te_en r (p + 1) :: st) _ _ _ M5 y3 _ ?_ (by omega) (by omega) d6 ((a2.tr b2).tr d2) ((F3.wk (by decide)).tr (f6.wk (by decide))) ?_ ?_ ⟨rfl, by omega, rfl, by omega, by rw [← en1]; exact hst'⟩
            · unfold ab_w
              rw [if_neg c1, hEp, if_neg cU, hEf, if_neg cS]
            · rw [← List.append_assoc, ← List.append_assoc]
              exact d4.fr (fx.rf [] y3) f6 (by decide) (by decide) (by decide)
            · rw [aup_s, aup_s]
              have e6 : A3 6 = A 6 := F3 6 (by decide)
              rw [e6]
              exact sk_push (sk_push hk')
          refine mg_run 2 rfl ?_
          refine mg_addN rfl ?_
          refine mg_run 3 rfl ?_
          refine mg_callV [.int (nI (p + 1))] rfl rfl rfl h.2.1 rfl rfl rfl rfl (c_Mo_behind h hR hv nd1 ?_)
          refine mg_run 2 rfl ?_
          refine mg_get rfl rfl h.2.1 rfl ?_
          refine mg_run 1 rfl ?_
          refine mr_ild 3 rfl h (by decide) (show te_en r (p + 1) < 2001 by omega) ?_
          rw [hR.2.2 _ k2]
          refine mg_if rfl (fun e3 => ?_) (fun e3 => ?_)
          · have c3 : ¬ r.getD (te_en r (p + 1)) 0 = 1000 := fun h9 => e3 ((xc_0 (hv _)).mpr h9)
            exact spread (fun h9 => c3 h9.1)
          · have c3 : r.getD (te_en r (p + 1)) 0 = 1000 := (xc_0 (hv _)).mp (Decidable.not_not.mp e3)
            refine mg_run 2 rfl ?_
            refine mg_callV [.int (nI (p + 1))] rfl rfl rfl h.2.1 rfl rfl rfl rfl (c_Mo_isIn h hR hv nd1 ?_)
            refine mg_zne rfl (by omega) (fun c4 => ?_) (fun c4 => ?_)
            · exact spread (fun h9 => ab_U_1 (s := s) (by omega) (Nat.le_of_lt gt1) (show ¬ te_u r (te_en r (p + 1) - (p + 1)) (p + 1) = 0 by omega) h9.2)
            · refine mg_run 2 rfl ?_
              refine mg_callV [.int (nI (p + 1))] rfl rfl rfl h.2.1 rfl rfl rfl rfl (c_Mo_putLess hv hz h hR hn nd1 c4 (fun M1 y1 A1 a1 a2 a3 a4 => ?_))
              refine mg_run 1 rfl ?_
              refine nxt (ab_o r (p + 1) (te_en r (p + 1))) (te_en r p) st _ _ _ M1 y1 A1 ?_ gt hE1 a1 a2 (a3.wk (by decide)) a4 (by rw [a3 6 (by decide)]; exact hk') hst'
              unfold ab_w
              rw [if_neg c1, hEp, if_neg cU, hEf, if_pos ⟨c3, ab_U_0 (by omega) (Nat.le_of_lt gt1) c4⟩]
        · refine mg_run 2 rfl ?_
          refine mg_callV [.int (xc 64)] rfl rfl rfl h.2.1 rfl rfl rfl rfl (c_Mo_put h hn (fun M1 y1 A1 a1 a2 a3 a4 => ?_))
          refine mg_run 2 rfl ?_
          refine mg_callV [.int (xc 75)] rfl rfl rfl a1.2.1 rfl rfl rfl rfl (c_Mo_put a1 a4 (fun M2 y2 A2 b1 b2 b3 b4 => ?_))
          refine mg_run 2 rfl ?_
          have R2 : ro_is y2 A2 r := (hR.fr a2 a3 (by decide) (by decide)).fr b2 b3 (by decide) (by decide)
          refine mg_callV [.int (nI p)] rfl rfl rfl b1.2.1 rfl rfl rfl rfl (c_Mo_putLess hv hz b1 R2 b4 nd c2 (fun M3 y3 A3 d1 d2 d3 d4 => ?_))
          have F3 : fa [4] A A3 := (a3.tr b3).tr d3
          refine mg_run 1 rfl ?_
          refine nxt ([64] ++ [75] ++ ab_o r p (te_en r p)) (te_en r p) st _ _ _ M3 y3 A3 ?_ gt hE1 d1 ((a2.tr b2).tr d2) (F3.wk (by decide)) ?_ (by rw [F3 6 (by decide)]; exact hk') hst'
          · unfold ab_w
            rw [if_neg c1, hEp, if_pos (ab_U_0 hs (Nat.le_of_lt gt) c2)]
          · rw [← List.append_assoc, ← List.append_assoc]
            exact d4
      · have c1 : r.getD p 0 = 1000 := (xc_0 hvp).mp (Decidable.not_not.mp e1)
        refine mg_run 2 rfl ?_
        refine mg_callV [.int (xc 73)] rfl rfl rfl h.2.1 rfl rfl rfl rfl (c_Mo_put h hn (fun M1 y1 A1 a1 a2 a3 a4 => ?_))
        refine mg_run 1 rfl ?_
        refine nxt [73] (te_en r p) st _ _ _ M1 y1 A1 ?_ gt hE1 a1 a2 (a3.wk (by decide)) a4 (by rw [a3 6 (by decide)]; exact hk') hst'
        unfold ab_w
        rw [if_pos c1, hEp]
end
