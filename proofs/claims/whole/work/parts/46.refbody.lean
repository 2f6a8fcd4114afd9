/-! The reference: the body of a redex. -/
theorem te_pc_congr {f g : Nat → List Nat} : ∀ n s, (∀ j, s ≤ j → j < s + n → f j = g j) → te_pc f s n = te_pc g s n := by
  intro n
  induction n with
  | zero => intro s _; rfl
  | succ n ih =>
    intro s h
    rw [te_pc, te_pc, h s (Nat.le_refl _) (by omega), ih (s + 1) (fun j h1 h2 => h j (by omega) (by omega))]
/-- a place of the body, the argument given as a function of the depth -/
def te_bo (r : List Nat) (D : Nat → Nat) (F : Nat → List Nat) (i : Nat) : List Nat := if r.getD i 0 = 1000 + D i then F (D i) else [if r.getD i 0 ≤ 1000 + D i then r.getD i 0 else r.getD i 0 - 1]
def te_af (r : List Nat) (ar mo : Nat) : List Nat := te_pc (te_sf r (te_D r ar) mo) ar (te_en r ar - ar)
section
variable {l : Launch} {sc : Nat × (Nat → Int32)} {M0 : mm_M} {Q : mm_O → mm_M → Prop} {r : List Nat}
theorem lp_Mo_putBody (hv : ∀ i, r.getD i 0 < 10000) (hz : ∀ i, i < r.length → ¬ r.getD i 0 = 0) {D : Nat → Nat} {en ar : Nat} {x1 : Int32} (hen : en ≤ r.length) (har : te_nd (r.drop ar) 1 = 0) : ∀ m i (st : List Nat) (x6 x7 : Option Value) (M : mm_M) (x : Nat → Int32) (A : Nat → Nat → Int32) (out : List Nat), mm_c2 (some x6) = false → mo_is M0 M x A → ro_is x A r → nx_is x A out → sk_in (A 5) st → wk_is r D en i st → en - i = m → i ≤ en →
    (∀ M' x' A', mo_is M0 M' x' A' → fx [10, 11] x x' → fa [4, 5, 6] A A' → nx_is x' A' (out ++ te_pc (te_bo r D (te_af r ar)) i m) → Q (.inl none) M') →
    mm_Go l sc Y_Mo_putBody 0 0 M [some (.ref 54), some (.int x1), some (.int (nI ar)), some (.int (nI en)), some (.int (nI st.length)), some (.int (nI i)), x6, x7] [] 19 Q := by
  intro m
  induction m with
  | zero =>
    intro i st x6 x7 M x A out hx6 h hR hn hs hw hm hi hQ
    have h4 := hR.2.1
    refine mg_run 2 rfl ?_
    refine mg_ge rfl (by omega) (by omega) (fun _ => ?_) (fun h => absurd h (by omega))
    refine mg_vr rfl rfl rfl rfl ?_
    exact hQ M x A h (fx.rf _ _) (fa.rf _ _) (by rw [te_pc, List.append_nil]; exact hn)
  | succ m ih =>
    intro i st x6 x7 M x A out hx6 h hR hn hs hw hm hi hQ
    have h4 := hR.2.1
    obtain ⟨d, st', rfl, hD, hd, hl, hw'⟩ := wk_s hw (by omega) hen
    have hvi := hv i
    have hzi := hz i (by omega)
    have tail : ∀ (st2 : List Nat) (M1 : mm_M) (A1 : Nat → Nat → Int32), mo_is M0 M1 x A1 → fa [4, 5, 6] A A1 → ro_is x A1 r → nx_is x A1 out → sk_in (A1 5) st2 → wk_is r D en (i + 1) st2 →
        mm_Go l sc Y_Mo_putBody 0 0 M1 [some (.ref 54), some (.int x1), some (.int (nI ar)), some (.int (nI en)), some (.int (nI st2.length)), some (.int (nI i)), some (.int (nI d)), some (.int (xc (r.getD i 0)))] [] 99 Q := by
      intro st2 M1 A1 g gf gR gn gs gw
      have fin : ∀ p, te_bo r D (te_af r ar) i = p → ∀ M2 x2 A2, mo_is M0 M2 x2 A2 → fx [10, 11] x x2 → fa [4, 6] A1 A2 → nx_is x2 A2 (out ++ p) →
          mm_Go l sc Y_Mo_putBody 0 0 M2 [some (.ref 54), some (.int x1), some (.int (nI ar)), some (.int (nI en)), some (.int (nI st2.length)), some (.int (nI i)), some (.int (nI d)), some (.int (xc (r.getD i 0)))] [] 152 Q := by
        intro p ev M2 x2 A2 p1 p2 p3 p4
        refine mg_incN rfl rfl rfl ?_
        refine mg_run 1 rfl ?_
        have p5 : fa [4, 5, 6] A1 A2 := p3.wk (by decide)
        refine ih (i + 1) st2 _ _ M2 x2 A2 _ rfl p1 (gR.fr p2 p3 (by decide) (by decide)) p4 (by rw [p3 5 (by decide)]; exact gs) gw (by omega) (by omega) (fun M' x' A' q1 q2 q3 q4 => hQ M' x' A' q1 (p2.tr q2) ((gf.tr p5).tr q3) ?_)
        rw [te_pc, ev, ← List.append_assoc]
        exact q4
      refine mg_run 1 rfl ?_
      refine mg_callS [.int (xc (r.getD i 0))] rfl rfl rfl rfl rfl rfl (c_Mo_isIndex (fun e => ?_) (fun e => ?_))
      · have c1 := (ix_iff hvi hzi).mp e
        have exc := xc_ix c1
        refine mg_zeq rfl (by decide) (fun h => absurd h (by decide)) (fun _ => ?_)
        refine mg_run 2 rfl ?_
        rw [exc]
        refine mg_ne rfl (by omega) (by omega) (fun c2 => ?_) (fun c2 => ?_)
        · rw [← exc]
          refine mg_run 2 rfl ?_
          refine mg_callS [.int (xc (r.getD i 0))] rfl rfl rfl rfl rfl rfl (c_Mo_isIndex (fun _ => ?_) (fun e9 => absurd e e9))
          refine mg_zeq rfl (by decide) (fun h => absurd h (by decide)) (fun _ => ?_)
          refine mg_run 2 rfl ?_
          rw [exc]
          refine mg_le rfl (by omega) (by omega) (fun c3 => ?_) (fun c3 => ?_)
          · rw [← exc]
            refine mg_run 1 rfl ?_
            refine mg_callV [.int (xc (r.getD i 0))] rfl rfl rfl g.2.1 rfl rfl rfl rfl (c_Mo_put g gn (fun M2 x2 A2 p1 p2 p3 p4 => fin _ ?_ M2 x2 A2 p1 p2 (p3.wk (by decide)) p4))
            unfold te_bo
            rw [if_neg (by omega), if_pos (by omega)]
          · refine mg_run 2 rfl ?_
            refine mg_subN rfl (by omega) ?_
            have e2 : nI (r.getD i 0 - 1000 - 1) = xc (r.getD i 0 - 1) := by
              rw [xc_ix (by omega), show r.getD i 0 - 1 - 1000 = r.getD i 0 - 1000 - 1 by omega]
            rw [e2, ← exc]
            refine mg_run 1 rfl ?_
            refine mg_callV [.int (xc (r.getD i 0 - 1))] rfl rfl rfl g.2.1 rfl rfl rfl rfl (c_Mo_put g gn (fun M2 x2 A2 p1 p2 p3 p4 => fin _ ?_ M2 x2 A2 p1 p2 (p3.wk (by decide)) p4))
            unfold te_bo
            rw [if_neg (by omega), if_neg (by omega)]
        · rw [← exc]
          refine mg_run 3 rfl ?_
          refine mg_callV [.int (nI ar), .int (nI d)] rfl rfl rfl g.2.1 rfl rfl rfl rfl (c_Mo_putShifted hv hz g gR gn har (fun M2 x2 A2 p1 p2 p3 p4 => ?_))
          refine mg_run 1 rfl ?_
          refine fin _ ?_ M2 x2 A2 p1 p2 p3 p4
          unfold te_bo
          rw [if_pos (by omega), hD]
          rfl
      · have c1 : ¬ 1000 ≤ r.getD i 0 := fun h9 => e ((ix_iff hvi hzi).mpr h9)
        refine mg_zeq rfl (by decide) (fun _ => ?_) (fun h => absurd h (by decide))
        refine mg_run 2 rfl ?_
        refine mg_callS [.int (xc (r.getD i 0))] rfl rfl rfl rfl rfl rfl (c_Mo_isIndex (fun e9 => absurd e9 e) (fun _ => ?_))
        refine mg_zeq rfl (by decide) (fun _ => ?_) (fun h => absurd h (by decide))
        refine mg_run 1 rfl ?_
        refine mg_callV [.int (xc (r.getD i 0))] rfl rfl rfl g.2.1 rfl rfl rfl rfl (c_Mo_put g gn (fun M2 x2 A2 p1 p2 p3 p4 => fin _ ?_ M2 x2 A2 p1 p2 (p3.wk (by decide)) p4))
        unfold te_bo
        rw [if_neg (by omega), if_pos (by omega)]
    refine mg_run 2 rfl ?_
    refine mg_ge rfl (by omega) (by omega) (fun h => absurd h (by omega)) (fun hlt => ?_)
    refine mg_decN rfl rfl rfl ?_
    refine mg_run 1 rfl ?_
    refine mg_get rfl rfl h.2.1 rfl ?_
    refine mg_run 1 rfl ?_
    refine mr_ild 5 rfl h (by decide) (show st'.length < 2002 by omega) ?_
    rw [sk_top hs]
    refine mg_run 2 rfl ?_
    refine mg_get rfl rfl h.2.1 rfl ?_
    refine mg_run 1 rfl ?_
    refine mr_ild 3 rfl h (by decide) (show i < 2001 by omega) ?_
    rw [hR.2.2 i (by omega)]
    refine mg_run 3 rfl ?_
    refine mg_icmp rfl (fun e1 => ?_) (fun e1 => ?_)
    · have c1 : ¬ r.getD i 0 = 64 := fun h9 => e1 ((xc_64 hvi).mpr h9)
      refine mg_run 2 rfl ?_
      refine mg_icmp rfl (fun e2 => ?_) (fun e2 => ?_)
      · have c2 : ¬ r.getD i 0 = 92 := fun h9 => e2 ((xc_92 hvi).mpr h9)
        rw [st_nx, if_neg c1, if_neg c2] at hw'
        exact tail st' M A h (fa.rf _ _) hR hn (sk_pop hs) hw'
      · have c2 : r.getD i 0 = 92 := (xc_92 hvi).mp (Decidable.not_not.mp e2)
        rw [st_nx, if_neg c1, if_pos c2] at hw'
        refine mg_run 1 rfl ?_
        refine mg_get rfl rfl h.2.1 rfl ?_
        refine mg_run 3 rfl ?_
        refine mg_addN rfl ?_
        refine mr_ist 5 rfl h (by decide) (show st'.length < 2002 by omega) (fun M1 q1 => ?_)
        refine mg_incN rfl rfl rfl ?_
        have f1 : fa [4, 5, 6] A (aup A 5 (upd (A 5) st'.length (nI (d + 1)))) := fa.up (by decide) _ _
        have f2 : fa [5] A (aup A 5 (upd (A 5) st'.length (nI (d + 1)))) := fa.up (by decide) _ _
        exact tail ((d + 1) :: st') M1 _ q1 f1 (hR.fr (fx.rf [] x) f2 (by decide) (by decide)) (hn.fr (fx.rf [] x) f2 (by decide) (by decide) (by decide)) (by rw [aup_s]; exact sk_push (sk_pop hs)) hw'
    · have c1 : r.getD i 0 = 64 := (xc_64 hvi).mp (Decidable.not_not.mp e1)
      rw [st_nx, if_pos c1] at hw'
      refine mg_run 1 rfl ?_
      refine mg_get rfl rfl h.2.1 rfl ?_
      refine mg_run 2 rfl ?_
      refine mr_ist 5 rfl h (by decide) (show st'.length < 2002 by omega) (fun M1 q1 => ?_)
      refine mg_run 1 rfl ?_
      refine mg_get rfl rfl q1.2.1 rfl ?_
      refine mg_run 2 rfl ?_
      refine mg_addN rfl ?_
      refine mg_run 1 rfl ?_
      refine mr_ist 5 rfl q1 (by decide) (show st'.length + 1 < 2002 by omega) (fun M2 q2 => ?_)
      refine mg_incN rfl rfl rfl ?_
      refine mg_run 1 rfl ?_
      have f2 : fa [5] A (aup (aup A 5 (upd (A 5) st'.length (nI d))) 5 (upd (aup A 5 (upd (A 5) st'.length (nI d)) 5) (st'.length + 1) (nI d))) := (fa.up (by decide) _ _).tr (fa.up (by decide) _ _)
      exact tail (d :: d :: st') M2 _ q2 (f2.wk (by decide)) (hR.fr (fx.rf [] x) f2 (by decide) (by decide)) (hn.fr (fx.rf [] x) f2 (by decide) (by decide) (by decide)) (by rw [aup_s, aup_s]; exact sk_push (sk_push (sk_pop hs))) hw'
theorem c_Mo_putBody {M : mm_M} {x : Nat → Int32} {A : Nat → Nat → Int32} {out : List Nat} (hv : ∀ i, r.getD i 0 < 10000) (hz : ∀ i, i < r.length → ¬ r.getD i 0 = 0) (h : mo_is M0 M x A) (hR : ro_is x A r) (hx : nx_is x A out) {s : Nat} (hn : te_nd (r.drop s) 2 = 0)
    (hQ : ∀ M' x' A', mo_is M0 M' x' A' → fx [10, 11] x x' → fa [4, 5, 6] A A' → nx_is x' A' (out ++ te_pc (te_sb r (te_DD r s) (te_en r s) (te_en r (te_en r s) - te_en r s)) s (te_en r s - s)) → Q (.inl none) M') : mm_Ct l sc Y_Mo_putBody M [.ref 54, .int (nI s), .int (nI (te_en r s))] Q := by
  obtain ⟨hn1, hn2⟩ := te_nd_add _ 1 1 hn
  rw [List.drop_drop] at hn2
  have har : te_nd (r.drop (te_en r s)) 1 = 0 := hn2
  have h1 := cl_len hn1
  refine mm_by k_Mo_putBody w_Mo_putBody rfl rfl ?_
  refine mg_run 2 rfl ?_
  refine mg_callV [.int (nI s)] rfl rfl rfl h.2.1 rfl rfl rfl rfl (c_Mo_behind h hR hv hn1 ?_)
  refine mg_run 4 rfl ?_
  refine mg_get rfl rfl h.2.1 rfl ?_
  refine mg_run 2 rfl ?_
  refine mr_ist 5 rfl h (by decide) (show 0 < 2002 by decide) (fun M1 q1 => ?_)
  refine mg_run 2 rfl ?_
  have f2 : fa [5] A (aup A 5 (upd (A 5) 0 (nI 0))) := fa.up (by decide) _ _
  refine lp_Mo_putBody hv hz (te_en_le (by omega)) har _ s [0] none none M1 x _ out rfl q1 (hR.fr (fx.rf [] x) f2 (by decide) (by decide)) (hx.fr (fx.rf [] x) f2 (by decide) (by decide) (by decide)) ?_ (wk_0 hn1) rfl (te_en_ge r s) (fun M' x' A' p1 p2 p3 p4 => hQ M' x' A' p1 p2 ((f2.wk (by decide)).tr p3) ?_)
  · rw [aup_s]
    exact sk_push (st := []) (fun j hj => absurd hj (Nat.not_lt_zero j))
  · have e : te_pc (te_sb r (te_DD r s) (te_en r s) (te_en r (te_en r s) - te_en r s)) s (te_en r s - s) = te_pc (te_bo r (te_D r s) (te_af r (te_en r s))) s (te_en r s - s) := by
      refine te_pc_congr _ _ (fun j j1 j2 => ?_)
      have hj : j < te_en r s := by have := te_en_ge r s; omega
      have eD : te_DD r s j = te_D r s j := if_pos hj
      unfold te_sb te_bo
      rw [eD]
      have eF : te_pc (te_sf r (te_DD r s) (te_D r s j)) (te_en r s) (te_en r (te_en r s) - te_en r s) = te_af r (te_en r s) (te_D r s j) := by
        refine te_pc_congr _ _ (fun i i1 i2 => ?_)
        unfold te_sf
        rw [show te_DD r s i = te_D r (te_en r s) i from if_neg (by omega)]
      rw [eF]
    rw [e]
    exact p4
end
