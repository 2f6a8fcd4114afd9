/-! The reference: bind. -/
theorem te_pc1 {f : Nat → Nat} : ∀ n s, (te_pc (fun i => [f i]) s n).length = n := by
  intro n
  induction n with
  | zero => intro s; rfl
  | succ n ih =>
    intro s
    rw [te_pc, List.length_append, ih]
    show 1 + n = n + 1
    omega
theorem te_bi_len (r : List Nat) (v : Nat) : (te_bi r v).length = r.length + 1 := by
  have e : (te_pc (te_bd r v) 0 r.length).length = r.length := te_pc1 (f := fun i => if r.getD i 0 = v then 1000 + te_D r 0 i else r.getD i 0) r.length 0
  show ([92] ++ te_pc (te_bd r v) 0 r.length).length = r.length + 1
  rw [List.length_append, e]
  show 1 + r.length = r.length + 1
  omega
section
variable {l : Launch} {sc : Nat × (Nat → Int32)} {M0 M : mm_M} {Q : mm_O → mm_M → Prop} {sl : Nat → List Nat} {tp : List Nat} {pl : Int32} {o th : Nat}
theorem lp_Mo_bind {r : List Nat} {a v : Nat} {y3 : Int32} (hv : ∀ i, r.getD i 0 < 10000) (v1 : 97 ≤ v) (v2 : v ≤ 122) (hen : te_en r 0 = r.length) : ∀ m i (st : List Nat) (x6 x7 : Option Value) (M : mm_M) (x : Nat → Int32) (A : Nat → Nat → Int32) (out : List Nat), mm_c2 (some x6) = false → mo_is M0 M x A → ro_is x A r → nx_is x A out → sk_in (A 5) st → wk_is r (te_D r 0) (te_en r 0) i st → r.length - i = m → i ≤ r.length →
    (∀ M' x' A' x4' x5' x6' x7', mo_is M0 M' x' A' → fx [10, 11] x x' → fa [4, 5] A A' → nx_is x' A' (out ++ te_pc (te_bd r v) i m) → mm_Go l sc Y_Mo_bind 0 0 M' [some (.ref 54), some (.int (nI a)), some (.int (nI v)), some (.int y3), x4', x5', x6', x7'] [] 198 Q) →
    mm_Go l sc Y_Mo_bind 0 0 M [some (.ref 54), some (.int (nI a)), some (.int (nI v)), some (.int y3), some (.int (nI st.length)), some (.int (nI i)), x6, x7] [] 88 Q := by
  intro m
  induction m with
  | zero =>
    intro i st x6 x7 M x A out hx6 h hR hn hs hw hm hi hQ
    have h4 := hR.2.1
    refine mg_run 2 rfl ?_
    refine mg_get rfl rfl h.2.1 rfl ?_
    rw [hR.1]
    refine mg_ge rfl (by omega) (by omega) (fun _ => ?_) (fun h => absurd h (by omega))
    exact hQ M x A _ _ _ _ h (fx.rf _ _) (fa.rf _ _) (by rw [te_pc, List.append_nil]; exact hn)
  | succ m ih =>
    intro i st x6 x7 M x A out hx6 h hR hn hs hw hm hi hQ
    have h4 := hR.2.1
    obtain ⟨d, st', rfl, hD, hd, hl, hw'⟩ := wk_s hw (by omega) (by omega)
    have hvi := hv i
    have tail : ∀ (st2 : List Nat) (M1 : mm_M) (A1 : Nat → Nat → Int32), mo_is M0 M1 x A1 → fa [4, 5] A A1 → ro_is x A1 r → nx_is x A1 out → sk_in (A1 5) st2 → wk_is r (te_D r 0) (te_en r 0) (i + 1) st2 →
        mm_Go l sc Y_Mo_bind 0 0 M1 [some (.ref 54), some (.int (nI a)), some (.int (nI v)), some (.int y3), some (.int (nI st2.length)), some (.int (nI i)), some (.int (nI d)), some (.int (xc (r.getD i 0)))] [] 171 Q := by
      intro st2 M1 A1 g gf gR gn gs gw
      have fin : ∀ p, te_bd r v i = [p] → mm_Go l sc Y_Mo_bind 0 0 M1 [some (.ref 54), some (.int (nI a)), some (.int (nI v)), some (.int y3), some (.int (nI st2.length)), some (.int (nI i)), some (.int (nI d)), some (.int (xc (r.getD i 0)))] [.int (xc p), .ref 54] 189 Q := by
        intro p ev
        refine mg_callV [.int (xc p)] rfl rfl rfl g.2.1 rfl rfl rfl rfl (c_Mo_put g gn (fun M2 x2 A2 p1 p2 p3 p4 => ?_))
        refine mg_incN rfl rfl rfl ?_
        refine mg_run 1 rfl ?_
        have p5 : fa [4, 5] A1 A2 := p3.wk (by decide)
        refine ih (i + 1) st2 _ _ M2 x2 A2 _ rfl p1 (gR.fr p2 p3 (by decide) (by decide)) p4 (by rw [p3 5 (by decide)]; exact gs) gw (by omega) (by omega) (fun M' x' A' x4' x5' x6' x7' q1 q2 q3 q4 => hQ M' x' A' x4' x5' x6' x7' q1 (p2.tr q2) ((gf.tr p5).tr q3) ?_)
        rw [te_pc, ev, ← List.append_assoc]
        exact q4
      refine mg_run 4 rfl ?_
      refine mg_addN rfl ?_
      rw [← xc_let v1 v2]
      refine mg_icmp rfl (fun e => ?_) (fun e => ?_)
      · have c1 : ¬ r.getD i 0 = v := fun h9 => e (by rw [h9])
        refine mg_run 1 rfl ?_
        exact fin _ (by unfold te_bd; rw [if_neg c1])
      · have c1 : r.getD i 0 = v := (xc_inj hvi (by omega)).mp (Decidable.not_not.mp e)
        refine mg_run 2 rfl ?_
        have e2 : nI d = xc (1000 + d) := by rw [xc_ix (by omega), show 1000 + d - 1000 = d by omega]
        rw [show (Value.int (nI d) :: [Value.ref 54]) = [Value.int (xc (1000 + d)), Value.ref 54] by rw [e2]]
        exact fin _ (by unfold te_bd; rw [if_pos c1, hD])
    refine mg_run 2 rfl ?_
    refine mg_get rfl rfl h.2.1 rfl ?_
    rw [hR.1]
    refine mg_ge rfl (by omega) (by omega) (fun h => absurd h (by omega)) (fun hlt => ?_)
    refine mg_decN rfl rfl rfl ?_
    refine mg_run 1 rfl ?_
    refine mg_get rfl rfl h.2.1 rfl ?_
    refine mg_run 1 rfl ?_
    refine mr_ild 5 rfl h (by decide) (show st'.length < 2002 by omega) ?_
    rw [sk_top hs]
    refine mg_run 2 rfl ?_
    refine mg_get rfl rfl h.2.1 rfl ?_
    refine mg_run 1 rfl ?_
    refine mr_ild 3 rfl h (by decide) (show i < 2001 by omega) ?_
    rw [hR.2.2 i (by omega)]
    refine mg_run 3 rfl ?_
    refine mg_icmp rfl (fun e1 => ?_) (fun e1 => ?_)
    · have c1 : ¬ r.getD i 0 = 64 := fun h9 => e1 ((xc_64 hvi).mpr h9)
      refine mg_run 2 rfl ?_
      refine mg_icmp rfl (fun e2 => ?_) (fun e2 => ?_)
      · have c2 : ¬ r.getD i 0 = 92 := fun h9 => e2 ((xc_92 hvi).mpr h9)
        rw [st_nx, if_neg c1, if_neg c2] at hw'
        exact tail st' M A h (fa.rf _ _) hR hn (sk_pop hs) hw'
      · have c2 : r.getD i 0 = 92 := (xc_92 hvi).mp (Decidable.not_not.mp e2)
        rw [st_nx, if_neg c1, if_pos c2] at hw'
        refine mg_run 1 rfl ?_
        refine mg_get rfl rfl h.2.1 rfl ?_
        refine mg_run 3 rfl ?_
        refine mg_addN rfl ?_
        refine mr_ist 5 rfl h (by decide) (show st'.length < 2002 by omega) (fun M1 q1 => ?_)
        refine mg_incN rfl rfl rfl ?_
        have f2 : fa [5] A (aup A 5 (upd (A 5) st'.length (nI (d + 1)))) := fa.up (by decide) _ _
        exact tail ((d + 1) :: st') M1 _ q1 (f2.wk (by decide)) (hR.fr (fx.rf [] x) f2 (by decide) (by decide)) (hn.fr (fx.rf [] x) f2 (by decide) (by decide) (by decide)) (by rw [aup_s]; exact sk_push (sk_pop hs)) hw'
    · have c1 : r.getD i 0 = 64 := (xc_64 hvi).mp (Decidable.not_not.mp e1)
      rw [st_nx, if_pos c1] at hw'
      refine mg_run 1 rfl ?_
      refine mg_get rfl rfl h.2.1 rfl ?_
      refine mg_run 2 rfl ?_
      refine mr_ist 5 rfl h (by decide) (show st'.length < 2002 by omega) (fun M1 q1 => ?_)
      refine mg_run 1 rfl ?_
      refine mg_get rfl rfl q1.2.1 rfl ?_
      refine mg_run 2 rfl ?_
      refine mg_addN rfl ?_
      refine mg_run 1 rfl ?_
      refine mr_ist 5 rfl q1 (by decide) (show st'.length + 1 < 2002 by omega) (fun M2 q2 => ?_)
      refine mg_incN rfl rfl rfl ?_
      refine mg_run 1 rfl ?_
      have f2 : fa [5] A (aup (aup A 5 (upd (A 5) st'.length (nI d))) 5 (upd (aup A 5 (upd (A 5) st'.length (nI d)) 5) (st'.length + 1) (nI d))) := (fa.up (by decide) _ _).tr (fa.up (by decide) _ _)
      exact tail (d :: d :: st') M2 _ q2 (f2.wk (by decide)) (hR.fr (fx.rf [] x) f2 (by decide) (by decide)) (hn.fr (fx.rf [] x) f2 (by decide) (by decide) (by decide)) (by rw [aup_s, aup_s]; exact sk_push (sk_push (sk_pop hs))) hw'
theorem c_Mo_bind (h : md_is M0 M sl tp pl o th) {a v : Nat} (ha : a < 12) (v1 : 97 ≤ v) (v2 : v ≤ 122) (hn : 0 < (sl a).length) (hv : ∀ i, (sl a).getD i 0 < 10000) (hc1 : te_nd (sl a) 1 = 0) (hc2 : te_sc (sl a) 1 = (sl a).length) (hl9 : (te_bi (sl a) v).length ≤ 2000)
    (hQ : ∀ M', md_is M0 M' (sl_up sl a (te_bi (sl a) v)) tp pl o 0 → Q (.inl (some (.int (nI (te_bi (sl a) v).length)))) M') : mm_Ct l sc Y_Mo_bind M [.ref 54, .int (nI a), .int (nI v)] Q := by
  obtain ⟨x, A, h1, h2, h3, h4, h5, h6⟩ := h
  obtain ⟨a1, a2, a3⟩ := h2 a ha
  have ol := te_bi_len (sl a) v
  have hen : te_en (sl a) 0 = (sl a).length := by rw [te_en, List.drop_zero, hc2]; omega
  have hlet : is_let (nI v) := (let_nI (by omega)).mpr ⟨v1, v2⟩
  refine mm_by k_Mo_bind w_Mo_bind rfl rfl ?_
  refine mg_run 1 rfl ?_
  refine mg_callS [.int (nI a)] rfl rfl rfl rfl rfl rfl (c_Mo_isSlot (fun _ => ?_) (fun e => absurd e (no_nI ha)))
  refine mg_zeq rfl (by decide) (fun h => absurd h (by decide)) (fun _ => ?_)
  refine mg_run 1 rfl ?_
  refine mg_callS [.int (nI v)] rfl rfl rfl rfl rfl rfl (c_Mo_isLetter (fun _ => ?_) (fun e => absurd hlet e))
  refine mg_zne rfl (by decide) (fun _ => ?_) (fun h => absurd h (by decide))
  refine mg_run 5 rfl ?_
  refine mg_zne (a := 0) rfl (by decide) (fun h => absurd h (by decide)) (fun _ => ?_)
  refine mg_run 1 rfl ?_
  refine mg_get rfl rfl h1.2.1 rfl ?_
  refine mg_run 1 rfl ?_
  refine mr_ild 2 rfl h1 (by decide) (show a < 12 from ha) ?_
  rw [a2]
  refine mg_zeq rfl (by omega) (fun h => absurd h (by omega)) (fun _ => ?_)
  refine mg_run 1 rfl ?_
  refine mg_get rfl rfl h1.2.1 rfl ?_
  refine mg_run 1 rfl ?_
  refine mr_ild 2 rfl h1 (by decide) (show a < 12 from ha) ?_
  rw [a2]
  refine mg_run 1 rfl ?_
  refine mg_ne rfl (by omega) (by decide) (fun _ => ?_) (fun h => absurd h (by omega))
  refine mg_run 1 rfl ?_
  refine mg_callV [.int (nI 0), .int (nI 0)] rfl rfl rfl h1.2.1 rfl rfl rfl rfl (c_Mo_throwing h1 (a := 0) (b := 0) (by decide) (by decide) (fun _ _ M1 q1 => ?_) (fun h => absurd h (by decide)) (fun _ h => absurd h (by decide)))
  refine mg_zeq rfl (by decide) (fun _ => ?_) (fun h => absurd h (by decide))
  refine mg_run 2 rfl ?_
  refine mg_callV [.int (nI a)] rfl rfl rfl q1.2.1 rfl rfl rfl rfl (c_Mo_load ha q1 h2 (fun M2 x2 A2 q2 f2 g2 r2 => ?_))
  refine mg_run 1 rfl ?_
  refine mg_callV [] rfl rfl rfl q2.2.1 rfl rfl rfl rfl (c_Mo_begin q2 (fun M3 x3 q3 f3 n3 => ?_))
  refine mg_run 2 rfl ?_
  refine mg_callV [.int (xc 92)] rfl rfl rfl q3.2.1 rfl rfl rfl rfl (c_Mo_put q3 n3 (fun M4 x4 A4 q4 f4 g4 n4 => ?_))
  refine mg_run 3 rfl ?_
  refine mg_get rfl rfl q4.2.1 rfl ?_
  refine mg_run 2 rfl ?_
  refine mr_ist 5 rfl q4 (by decide) (show 0 < 2002 by decide) (fun M5 q5 => ?_)
  refine mg_run 2 rfl ?_
  have S4 : st_is A4 sl := (h2.fr g2 (by decide) (by decide)).fr g4 (by decide) (by decide)
  have R4 : ro_is x4 A4 (sl a) := (r2.fr f3 (fa.rf [] A2) (by decide) (by decide)).fr f4 g4 (by decide) (by decide)
  have g5 : fa [5] A4 (aup A4 5 (upd (A4 5) 0 (nI 0))) := fa.up (by decide) _ _
  refine lp_Mo_bind hv v1 v2 hen _ 0 [0] none none M5 x4 _ _ rfl q5 (R4.fr (fx.rf [] x4) g5 (by decide) (by decide)) (n4.fr (fx.rf [] x4) g5 (by decide) (by decide) (by decide)) ?_ (wk_0 (by rw [List.drop_zero]; exact hc1)) rfl (Nat.zero_le _) (fun M6 x6 A6 y4 y5 y6 y7 q6 f6 g6 n6 => ?_)
  · rw [aup_s]
    exact sk_push (st := []) (fun j hj => absurd hj (Nat.not_lt_zero j))
  · have S6 : st_is A6 sl := (S4.fr g5 (by decide) (by decide)).fr g6 (by decide) (by decide)
    have n6 : nx_is x6 A6 (te_bi (sl a) v) := n6
    refine mg_run 1 rfl ?_
    refine mg_callV [] rfl rfl rfl q6.2.1 rfl rfl rfl rfl (c_Mo_settle q6 n6 hl9 (fun M7 x7 A7 q7 f7 g7 r7 => ?_))
    refine mg_run 2 rfl ?_
    have S7 : st_is A7 sl := S6.fr g7 (by decide) (by decide)
    refine mg_callV [.int (nI a)] rfl rfl rfl q7.2.1 rfl rfl rfl rfl (c_Mo_store ha q7 r7 S7 (fun M8 A8 q8 g8 S8 => ?_))
    refine mg_run 1 rfl ?_
    refine mg_get rfl rfl q8.2.1 rfl ?_
    rw [r7.1]
    refine mg_ir rfl rfl rfl rfl (hQ M8 ?_)
    have F : fx [0, 8, 10, 11] x x7 := ((((fx.up (by decide) _ _).tr (f2.wk (by decide))).tr (f3.wk (by decide))).tr (f4.wk (by decide))).tr ((f6.wk (by decide)).tr (f7.wk (by decide)))
    have G : fa [1, 2, 3, 4, 5] A A8 := ((((g2.wk (by decide)).tr (g4.wk (by decide))).tr (g5.wk (by decide))).tr (g6.wk (by decide))).tr ((g7.wk (by decide)).tr (g8.wk (by decide)))
    have e0 : x7 0 = nI 0 := by rw [f7 0 (by decide), f6 0 (by decide), f4 0 (by decide), f3 0 (by decide), f2 0 (by decide), pk_us]
    exact md_fr h3 h4 q8 S8 F G (by decide) (by decide) (by decide) ((F 4 (by decide)).trans h5) e0
theorem lp_Mo_bindX (h : md_is M0 M sl tp pl o th) {z y : Int32} {x3 x4 x5 x6 x7 : Option Value} (hQ : ∀ M', md_is M0 M' sl tp pl o 1 → Q (.inl (some (.int (nI 0)))) M') : mm_Go l sc Y_Mo_bind 0 0 M [some (.ref 54), some (.int z), some (.int y), x3, x4, x5, x6, x7] [.int (nI 1)] 19 Q := by
  obtain ⟨x, A, h1, h2, h3, h4, h5, h6⟩ := h
  refine mg_run 4 rfl ?_
  refine mg_zne (a := 1) rfl (by decide) (fun _ => ?_) (fun h => absurd h (by decide))
  refine mg_run 1 rfl ?_
  refine mg_callV [.int (nI 1), .int (nI 0)] rfl rfl rfl h1.2.1 rfl rfl rfl rfl (c_Mo_throwing h1 (a := 1) (b := 0) (by decide) (by decide) (fun h => absurd h (by decide)) (fun _ M1 q1 => ?_) (fun h => absurd h (by decide)))
  refine mg_zeq rfl (by decide) (fun h => absurd h (by decide)) (fun _ => ?_)
  refine mg_run 1 rfl ?_
  exact mg_ir rfl rfl rfl rfl (hQ M1 (md_th h2 h3 h4 h5 q1))
theorem c_Mo_bindX (h : md_is M0 M sl tp pl o th) {z y : Int32} (hx : no_slot z ∨ ¬ is_let y) (hQ : ∀ M', md_is M0 M' sl tp pl o 1 → Q (.inl (some (.int (nI 0)))) M') : mm_Ct l sc Y_Mo_bind M [.ref 54, .int z, .int y] Q := by
  refine mm_by k_Mo_bind w_Mo_bind rfl rfl ?_
  refine mg_run 1 rfl ?_
  refine mg_callS [.int z] rfl rfl rfl rfl rfl rfl (c_Mo_isSlot (fun e1 => ?_) (fun _ => ?_))
  · refine mg_zeq rfl (by decide) (fun h => absurd h (by decide)) (fun _ => ?_)
    refine mg_run 1 rfl ?_
    refine mg_callS [.int y] rfl rfl rfl rfl rfl rfl (c_Mo_isLetter (fun e2 => absurd hx (fun h9 => h9.elim e1 (fun h8 => h8 e2))) (fun _ => ?_))
    refine mg_zne rfl (by decide) (fun h => absurd h (by decide)) (fun _ => ?_)
    refine mg_run 2 rfl ?_
    exact lp_Mo_bindX h hQ
  · refine mg_zeq rfl (by decide) (fun _ => ?_) (fun h => absurd h (by decide))
    refine mg_run 2 rfl ?_
    exact lp_Mo_bindX h hQ
theorem lp_Mo_bindE (h : md_is M0 M sl tp pl o th) {z y : Int32} {x3 x4 x5 x6 x7 : Option Value} (hQ : ∀ M', md_is M0 M' sl tp pl o 2 → Q (.inl (some (.int (nI 0)))) M') : mm_Go l sc Y_Mo_bind 0 0 M [some (.ref 54), some (.int z), some (.int y), x3, x4, x5, x6, x7] [.int (nI 0), .ref 54] 47 Q := by
  obtain ⟨x, A, h1, h2, h3, h4, h5, h6⟩ := h
  refine mg_run 2 rfl ?_
  refine mg_callV [.int (nI 0), .int (nI 1)] rfl rfl rfl h1.2.1 rfl rfl rfl rfl (c_Mo_throwing h1 (a := 0) (b := 1) (by decide) (by decide) (fun _ h => absurd h (by decide)) (fun h => absurd h (by decide)) (fun _ _ M1 q1 => ?_))
  refine mg_zeq rfl (by decide) (fun h => absurd h (by decide)) (fun _ => ?_)
  refine mg_run 1 rfl ?_
  exact mg_ir rfl rfl rfl rfl (hQ M1 (md_th h2 h3 h4 h5 q1))
theorem c_Mo_bindE (h : md_is M0 M sl tp pl o th) {a : Nat} {y : Int32} (ha : a < 12) (hlet : is_let y) (hn : (sl a).length = 0 ∨ (sl a).length = 2000)
    (hQ : ∀ M', md_is M0 M' sl tp pl o 2 → Q (.inl (some (.int (nI 0)))) M') : mm_Ct l sc Y_Mo_bind M [.ref 54, .int (nI a), .int y] Q := by
  have h9 := h
  obtain ⟨x, A, h1, h2, h3, h4, h5, h6⟩ := h
  obtain ⟨a1, a2, a3⟩ := h2 a ha
  refine mm_by k_Mo_bind w_Mo_bind rfl rfl ?_
  refine mg_run 1 rfl ?_
  refine mg_callS [.int (nI a)] rfl rfl rfl rfl rfl rfl (c_Mo_isSlot (fun _ => ?_) (fun e => absurd e (no_nI ha)))
  refine mg_zeq rfl (by decide) (fun h => absurd h (by decide)) (fun _ => ?_)
  refine mg_run 1 rfl ?_
  refine mg_callS [.int y] rfl rfl rfl rfl rfl rfl (c_Mo_isLetter (fun _ => ?_) (fun e => absurd hlet e))
  refine mg_zne rfl (by decide) (fun _ => ?_) (fun h => absurd h (by decide))
  refine mg_run 5 rfl ?_
  refine mg_zne (a := 0) rfl (by decide) (fun h => absurd h (by decide)) (fun _ => ?_)
  refine mg_run 1 rfl ?_
  refine mg_get rfl rfl h1.2.1 rfl ?_
  refine mg_run 1 rfl ?_
  refine mr_ild 2 rfl h1 (by decide) (show a < 12 from ha) ?_
  rw [a2]
  refine mg_zeq rfl (by omega) (fun _ => ?_) (fun c1 => ?_)
  · exact lp_Mo_bindE h9 hQ
  · refine mg_run 1 rfl ?_
    refine mg_get rfl rfl h1.2.1 rfl ?_
    refine mg_run 1 rfl ?_
    refine mr_ild 2 rfl h1 (by decide) (show a < 12 from ha) ?_
    rw [a2]
    refine mg_run 1 rfl ?_
    refine mg_ne rfl (by omega) (by decide) (fun h => absurd h (by omega)) (fun _ => ?_)
    exact lp_Mo_bindE h9 hQ
end
