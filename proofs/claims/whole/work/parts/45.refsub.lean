/-! The reference: substitution. -/
theorem xc_ix {c : Nat} (h : 1000 ≤ c) : xc c = nI (c - 1000) := by
  unfold xc
  rw [if_neg (by omega), if_neg (by omega), if_pos h]
theorem ix_iff {c : Nat} (h : c < 10000) (hz : ¬ c = 0) : is_ix (xc c) ↔ 1000 ≤ c := by
  unfold is_ix
  rw [xc_toInt h]
  unfold xi
  repeat' split
  all_goals omega
/-- the stack of depths behind a code -/
def st_nx (c d : Nat) (st : List Nat) : List Nat := if c = 64 then d :: d :: st else if c = 92 then (d + 1) :: st else st
theorem st_nx_len (c d : Nat) (st : List Nat) : (st_nx c d st).length = if c = 64 then st.length + 2 else if c = 92 then st.length + 1 else st.length := by
  unfold st_nx
  split
  · rfl
  · split <;> rfl
/-- what a walk over a part knows at i: the stack st, the depths D, its end en -/
def wk_is (r : List Nat) (D : Nat → Nat) (en i : Nat) (st : List Nat) : Prop := te_nd (r.drop i) st.length = 0 ∧ te_sc (r.drop i) st.length = en - i ∧ (∀ j, j < en - i → (te_ms (r.drop i) st).getD j 0 = D (i + j)) ∧ ∀ y ∈ st, y ≤ i
theorem wk_0 {r : List Nat} {s : Nat} (h : te_nd (r.drop s) 1 = 0) : wk_is r (te_D r s) (te_en r s) s [0] := by
  refine ⟨h, ?_, fun j hj => ?_, fun y hy => ?_⟩
  · unfold te_en
    show te_sc (r.drop s) 1 = s + te_sc (r.drop s) 1 - s
    omega
  · unfold te_D
    rw [show s + j - s = j by omega]
  · rw [List.mem_singleton] at hy
    omega
theorem wk_s {r : List Nat} {D : Nat → Nat} {en i : Nat} {st : List Nat} (h : wk_is r D en i st) (hi : i < en) (hen : en ≤ r.length) : ∃ d st', st = d :: st' ∧ D i = d ∧ d ≤ i ∧ st'.length + 1 ≤ r.length - i ∧ wk_is r D en (i + 1) (st_nx (r.getD i 0) d st') := by
  obtain ⟨h1, h2, h3, h4⟩ := h
  cases st with
  | nil =>
    rw [List.length_nil, te_sc0] at h2
    omega
  | cons d st' =>
    have hr : i < r.length := by omega
    have hl := cl_len h1
    rw [List.length_cons] at hl
    have hd := h4 d List.mem_cons_self
    refine ⟨d, st', rfl, ?_, hd, hl, ?_⟩
    · have := h3 0 (by omega)
      rw [te_drop hr, te_ms] at this
      exact this.symm
    · rw [te_drop hr, List.length_cons] at h1 h2
      rw [te_nd] at h1
      rw [te_sc] at h2
      rw [← st_nx_len (r.getD i 0) d st'] at h1 h2
      refine ⟨h1, by omega, fun j hj => ?_, fun y hy => ?_⟩
      · have := h3 (j + 1) (by omega)
        rw [te_drop hr, te_ms] at this
        rw [show i + 1 + j = i + (j + 1) by omega]
        exact this
      · unfold st_nx at hy
        have ht : ∀ y ∈ st', y ≤ i + 1 := fun y hy => Nat.le_succ_of_le (h4 y (List.mem_cons_of_mem _ hy))
        split at hy
        · rcases List.mem_cons.mp hy with rfl | hy
          · omega
          · rcases List.mem_cons.mp hy with rfl | hy
            · omega
            · exact ht y hy
        · split at hy
          · rcases List.mem_cons.mp hy with rfl | hy
            · omega
            · exact ht y hy
          · exact ht y hy
section
variable {l : Launch} {sc : Nat × (Nat → Int32)} {M0 : mm_M} {Q : mm_O → mm_M → Prop} {r : List Nat}
theorem lp_Mo_putShifted (hv : ∀ i, r.getD i 0 < 10000) (hz : ∀ i, i < r.length → ¬ r.getD i 0 = 0) {D : Nat → Nat} {en mo : Nat} {x1 : Int32} (hen : en ≤ r.length) : ∀ m i (st : List Nat) (x6 x7 : Option Value) (M : mm_M) (x : Nat → Int32) (A : Nat → Nat → Int32) (out : List Nat), mm_c2 (some x6) = false → mo_is M0 M x A → ro_is x A r → nx_is x A out → sk_in (A 6) st → wk_is r D en i st → en - i = m → i ≤ en →
    (∀ M' x' A', mo_is M0 M' x' A' → fx [10, 11] x x' → fa [4, 6] A A' → nx_is x' A' (out ++ te_pc (te_sf r D mo) i m) → Q (.inl none) M') →
    mm_Go l sc Y_Mo_putShifted 0 0 M [some (.ref 54), some (.int x1), some (.int (nI mo)), some (.int (nI en)), some (.int (nI st.length)), some (.int (nI i)), x6, x7] [] 19 Q := by
  intro m
  induction m with
  | zero =>
    intro i st x6 x7 M x A out hx6 h hR hn hs hw hm hi hQ
    have h4 := hR.2.1
    refine mg_run 2 rfl ?_
    refine mg_ge rfl (by omega) (by omega) (fun _ => ?_) (fun h => absurd h (by omega))
    refine mg_vr rfl rfl rfl rfl ?_
    exact hQ M x A h (fx.rf _ _) (fa.rf _ _) (by rw [te_pc, List.append_nil]; exact hn)
  | succ m ih =>
    intro i st x6 x7 M x A out hx6 h hR hn hs hw hm hi hQ
    have h4 := hR.2.1
    obtain ⟨d, st', rfl, hD, hd, hl, hw'⟩ := wk_s hw (by omega) hen
    have hvi := hv i
    have hzi := hz i (by omega)
    have tail : ∀ (st2 : List Nat) (M1 : mm_M) (A1 : Nat → Nat → Int32), mo_is M0 M1 x A1 → fa [4, 6] A A1 → ro_is x A1 r → nx_is x A1 out → sk_in (A1 6) st2 → wk_is r D en (i + 1) st2 →
        mm_Go l sc Y_Mo_putShifted 0 0 M1 [some (.ref 54), some (.int x1), some (.int (nI mo)), some (.int (nI en)), some (.int (nI st2.length)), some (.int (nI i)), some (.int (nI d)), some (.int (xc (r.getD i 0)))] [] 99 Q := by
      intro st2 M1 A1 g gf gR gn gs gw
      have fin : ∀ v, te_sf r D mo i = [v] → ∀ M2 x2 A2, mo_is M0 M2 x2 A2 → fx [10, 11] x x2 → fa [4] A1 A2 → nx_is x2 A2 (out ++ [v]) →
          mm_Go l sc Y_Mo_putShifted 0 0 M2 [some (.ref 54), some (.int x1), some (.int (nI mo)), some (.int (nI en)), some (.int (nI st2.length)), some (.int (nI i)), some (.int (nI d)), some (.int (xc (r.getD i 0)))] [] 127 Q := by
        intro v ev M2 x2 A2 p1 p2 p3 p4
        refine mg_incN rfl rfl rfl ?_
        refine mg_run 1 rfl ?_
        have p5 : fa [4, 6] A1 A2 := p3.wk (by decide)
        refine ih (i + 1) st2 _ _ M2 x2 A2 _ rfl p1 (gR.fr p2 p3 (by decide) (by decide)) p4 (by rw [p3 6 (by decide)]; exact gs) gw (by omega) (by omega) (fun M' x' A' q1 q2 q3 q4 => hQ M' x' A' q1 (p2.tr q2) ((gf.tr p5).tr q3) ?_)
        rw [te_pc, ev, ← List.append_assoc]
        exact q4
      refine mg_run 2 rfl ?_
      refine mg_callS [.int (xc (r.getD i 0))] rfl rfl rfl rfl rfl rfl (c_Mo_isIndex (fun e => ?_) (fun e => ?_))
      · have c1 := (ix_iff hvi hzi).mp e
        have exc := xc_ix c1
        refine mg_zeq rfl (by decide) (fun h => absurd h (by decide)) (fun _ => ?_)
        refine mg_run 2 rfl ?_
        rw [exc]
        refine mg_lt rfl (by omega) (by omega) (fun c2 => ?_) (fun c2 => ?_)
        · rw [← exc]
          refine mg_run 1 rfl ?_
          refine mg_callV [.int (xc (r.getD i 0))] rfl rfl rfl g.2.1 rfl rfl rfl rfl (c_Mo_put g gn (fun M2 x2 A2 p1 p2 p3 p4 => fin _ ?_ M2 x2 A2 p1 p2 p3 p4))
          unfold te_sf
          rw [if_pos (by omega)]
        · refine mg_run 2 rfl ?_
          refine mg_addN rfl ?_
          have e2 : nI (r.getD i 0 - 1000 + mo) = xc (r.getD i 0 + mo) := by
            rw [xc_ix (by omega), show r.getD i 0 + mo - 1000 = r.getD i 0 - 1000 + mo by omega]
          rw [e2, ← exc]
          refine mg_run 1 rfl ?_
          refine mg_callV [.int (xc (r.getD i 0 + mo))] rfl rfl rfl g.2.1 rfl rfl rfl rfl (c_Mo_put g gn (fun M2 x2 A2 p1 p2 p3 p4 => fin _ ?_ M2 x2 A2 p1 p2 p3 p4))
          unfold te_sf
          rw [if_neg (by omega)]
      · have c1 : ¬ 1000 ≤ r.getD i 0 := fun h9 => e ((ix_iff hvi hzi).mpr h9)
        refine mg_zeq rfl (by decide) (fun _ => ?_) (fun h => absurd h (by decide))
        refine mg_run 1 rfl ?_
        refine mg_callV [.int (xc (r.getD i 0))] rfl rfl rfl g.2.1 rfl rfl rfl rfl (c_Mo_put g gn (fun M2 x2 A2 p1 p2 p3 p4 => fin _ ?_ M2 x2 A2 p1 p2 p3 p4))
        unfold te_sf
        rw [if_pos (by omega)]
    refine mg_run 2 rfl ?_
    refine mg_ge rfl (by omega) (by omega) (fun h => absurd h (by omega)) (fun hlt => ?_)
    refine mg_decN rfl rfl rfl ?_
    refine mg_run 1 rfl ?_
    refine mg_get rfl rfl h.2.1 rfl ?_
    refine mg_run 1 rfl ?_
    refine mr_ild 6 rfl h (by decide) (show st'.length < 2002 by omega) ?_
    rw [sk_top hs]
    refine mg_run 2 rfl ?_
    refine mg_get rfl rfl h.2.1 rfl ?_
    refine mg_run 1 rfl ?_
    refine mr_ild 3 rfl h (by decide) (show i < 2001 by omega) ?_
    rw [hR.2.2 i (by omega)]
    refine mg_run 3 rfl ?_
    refine mg_icmp rfl (fun e1 => ?_) (fun e1 => ?_)
    · have c1 : ¬ r.getD i 0 = 64 := fun h9 => e1 ((xc_64 hvi).mpr h9)
      refine mg_run 2 rfl ?_
      refine mg_icmp rfl (fun e2 => ?_) (fun e2 => ?_)
      · have c2 : ¬ r.getD i 0 = 92 := fun h9 => e2 ((xc_92 hvi).mpr h9)
        rw [st_nx, if_neg c1, if_neg c2] at hw'
        exact tail st' M A h (fa.rf _ _) hR hn (sk_pop hs) hw'
      · have c2 : r.getD i 0 = 92 := (xc_92 hvi).mp (Decidable.not_not.mp e2)
        rw [st_nx, if_neg c1, if_pos c2] at hw'
        refine mg_run 1 rfl ?_
        refine mg_get rfl rfl h.2.1 rfl ?_
        refine mg_run 3 rfl ?_
        refine mg_addN rfl ?_
        refine mr_ist 6 rfl h (by decide) (show st'.length < 2002 by omega) (fun M1 q1 => ?_)
        refine mg_incN rfl rfl rfl ?_
        have f1 : fa [4, 6] A (aup A 6 (upd (A 6) st'.length (nI (d + 1)))) := fa.up (by decide) _ _
        have f2 : fa [6] A (aup A 6 (upd (A 6) st'.length (nI (d + 1)))) := fa.up (by decide) _ _
        exact tail ((d + 1) :: st') M1 _ q1 f1 (hR.fr (fx.rf [] x) f2 (by decide) (by decide)) (hn.fr (fx.rf [] x) f2 (by decide) (by decide) (by decide)) (by rw [aup_s]; exact sk_push (sk_pop hs)) hw'
    · have c1 : r.getD i 0 = 64 := (xc_64 hvi).mp (Decidable.not_not.mp e1)
      rw [st_nx, if_pos c1] at hw'
      refine mg_run 1 rfl ?_
      refine mg_get rfl rfl h.2.1 rfl ?_
      refine mg_run 2 rfl ?_
      refine mr_ist 6 rfl h (by decide) (show st'.length < 2002 by omega) (fun M1 q1 => ?_)
      refine mg_run 1 rfl ?_
      refine mg_get rfl rfl q1.2.1 rfl ?_
      refine mg_run 2 rfl ?_
      refine mg_addN rfl ?_
      refine mg_run 1 rfl ?_
      refine mr_ist 6 rfl q1 (by decide) (show st'.length + 1 < 2002 by omega) (fun M2 q2 => ?_)
      refine mg_incN rfl rfl rfl ?_
      refine mg_run 1 rfl ?_
      have f2 : fa [6] A (aup (aup A 6 (upd (A 6) st'.length (nI d))) 6 (upd (aup A 6 (upd (A 6) st'.length (nI d)) 6) (st'.length + 1) (nI d))) := (fa.up (by decide) _ _).tr (fa.up (by decide) _ _)
      exact tail (d :: d :: st') M2 _ q2 (f2.wk (by decide)) (hR.fr (fx.rf [] x) f2 (by decide) (by decide)) (hn.fr (fx.rf [] x) f2 (by decide) (by decide) (by decide)) (by rw [aup_s, aup_s]; exact sk_push (sk_push (sk_pop hs))) hw'
theorem c_Mo_putShifted {M : mm_M} {x : Nat → Int32} {A : Nat → Nat → Int32} {out : List Nat} (hv : ∀ i, r.getD i 0 < 10000) (hz : ∀ i, i < r.length → ¬ r.getD i 0 = 0) (h : mo_is M0 M x A) (hR : ro_is x A r) (hx : nx_is x A out) {s mo : Nat} (hn : te_nd (r.drop s) 1 = 0)
    (hQ : ∀ M' x' A', mo_is M0 M' x' A' → fx [10, 11] x x' → fa [4, 6] A A' → nx_is x' A' (out ++ te_pc (te_sf r (te_D r s) mo) s (te_en r s - s)) → Q (.inl none) M') : mm_Ct l sc Y_Mo_putShifted M [.ref 54, .int (nI s), .int (nI mo)] Q := by
  have h1 := cl_len hn
  refine mm_by k_Mo_putShifted w_Mo_putShifted rfl rfl ?_
  refine mg_run 2 rfl ?_
  refine mg_callV [.int (nI s)] rfl rfl rfl h.2.1 rfl rfl rfl rfl (c_Mo_behind h hR hv hn ?_)
  refine mg_run 4 rfl ?_
  refine mg_get rfl rfl h.2.1 rfl ?_
  refine mg_run 2 rfl ?_
  refine mr_ist 6 rfl h (by decide) (show 0 < 2002 by decide) (fun M1 q1 => ?_)
  refine mg_run 2 rfl ?_
  have f2 : fa [6] A (aup A 6 (upd (A 6) 0 (nI 0))) := fa.up (by decide) _ _
  refine lp_Mo_putShifted hv hz (te_en_le (by omega)) _ s [0] none none M1 x _ out rfl q1 (hR.fr (fx.rf [] x) f2 (by decide) (by decide)) (hx.fr (fx.rf [] x) f2 (by decide) (by decide) (by decide)) ?_ (wk_0 hn) rfl (te_en_ge r s) (fun M' x' A' p1 p2 p3 p4 => hQ M' x' A' p1 p2 ((f2.wk (by decide)).tr p3) p4)
  rw [aup_s]
  exact sk_push (st := []) (fun j hj => absurd hj (Nat.not_lt_zero j))
end
