/-! The reference: reading an atom. -/
def is_at (c nb : Nat) : Prop := (97 ≤ c ∧ c ≤ 122) ∨ c = 83 ∨ c = 75 ∨ c = 73 ∨ c = 35 ∨ (c = 40 ∧ nb < 20) ∨ c = 92
/-- the state at the head of the reading loop -/
def rd_S (tp : List Nat) (nm0 : Nat → Int32) (x : Nat → Int32) (A : Nat → Nat → Int32) (i : Nat) (am : Nat → Nat) (Ls : lx_L) (nm : Nat → Int32) : Prop :=
  tx_is tp x A i (lx_k Ls) (lx_ar Ls).length am Ls nm ∧ lx_ok am (i + 1) Ls ∧ Ls ≠ [] ∧ lx_k Ls ≤ i ∧ (∀ e ∈ Ls, am e.2.1 ≤ i) ∧ rd_T tp nm0 (tp.length - i) i 0 am Ls nm (lx_k Ls) (lx_op Ls) 0 ∧ i ≤ tp.length ∧ lx_w am Ls
theorem lx_op_len : ∀ (L : lx_L), (lx_op L).length = (lx_ar L).length := by
  intro L
  induction L with
  | nil => rfl
  | cons a L ih =>
    rw [lx_op, lx_ar]
    split
    · rw [List.length_cons, List.length_cons, ih]
    · exact ih
theorem lx_ok_inc {am : Nat → Nat} {b be kd : Nat} {sg sg' : List Nat} {L : lx_L} (h : lx_ok am b ((sg, be, kd) :: L)) : lx_ok (gr_inc am be) b ((sg', be, kd) :: L) := by
  obtain ⟨h1, h2, h3, h4⟩ := h
  have ag : ∀ e ∈ L, gr_inc am be e.2.1 = am e.2.1 := fun e he => nup_n (Nat.ne_of_lt (lx_ok_lt L _ h4 e he))
  refine ⟨h1, h2, fun hn => ⟨(h3 hn).1, ?_⟩, lx_ok_am L _ ag h4⟩
  obtain ⟨e, he, hb⟩ := lx_be_mem hn
  rw [← hb, ag e he, hb]
  exact (h3 hn).2
/-- a new level on top -/
theorem lx_ok_psh {am : Nat → Nat} {i be kd kd' : Nat} {sg : List Nat} {L : lx_L} (h : lx_ok am i ((sg, be, kd) :: L)) (h0 : 0 < kd') (h1 : 1 ≤ am be) : lx_ok (nup am i 0) (i + 1) (([], i, kd') :: (sg, be, kd) :: L) := by
  have ag : ∀ e ∈ (sg, be, kd) :: L, nup am i 0 e.2.1 = am e.2.1 := fun e he => nup_n (Nat.ne_of_lt (lx_ok_lt _ _ h e he))
  refine ⟨Nat.lt_succ_self i, fun e => absurd e (by simp), fun _ => ⟨h0, ?_⟩, lx_ok_am _ _ ag h⟩
  show 1 ≤ nup am i 0 be
  rw [ag (sg, be, kd) List.mem_cons_self]
  exact h1
section
variable {l : Launch} {sc : Nat × (Nat → Int32)} {M0 M : mm_M} {Q : mm_O → mm_M → Prop} {x : Nat → Int32} {A : Nat → Nat → Int32} {tp : List Nat} {i k nb : Nat} {am : Nat → Nat} {nm nm0 : Nat → Int32} {Ls L : lx_L} {sg : List Nat} {be kd : Nat}
theorem lp_Mo_atom1 (h : mo_is M0 M x A) (h20 : x 20 = nI nb) {c : Nat} (hc : c < 256) (hnb : nb ≤ 1000) {x2 : Option Value} (kY : is_at c nb → mm_Go l sc Y_Mo_atom 0 0 M [some (.ref 54), some (.int (nI c)), x2] [.int (nI 1)] 62 Q) (kN : ¬ is_at c nb → mm_Go l sc Y_Mo_atom 0 0 M [some (.ref 54), some (.int (nI c)), x2] [.int (nI 0)] 62 Q) : mm_Go l sc Y_Mo_atom 0 0 M [some (.ref 54), some (.int (nI c)), x2] [.int (nI c)] 6 Q := by
  have yes : is_at c nb → mm_Go l sc Y_Mo_atom 0 0 M [some (.ref 54), some (.int (nI c)), x2] [] 57 Q := fun hy => mg_run 2 rfl (kY hy)
  unfold is_at at yes kN
  refine mg_callS [.int (nI c)] rfl rfl rfl rfl rfl rfl (c_Mo_isLetter (fun e => ?_) (fun e => ?_))
  · refine mg_zne rfl (by decide) (fun _ => ?_) (fun h => absurd h (by decide))
    exact yes (Or.inl ((let_nI (by omega)).mp e))
  · have e1 : ¬ (97 ≤ c ∧ c ≤ 122) := fun h9 => e ((let_nI (by omega)).mpr h9)
    refine mg_zne rfl (by decide) (fun h => absurd h (by decide)) (fun _ => ?_)
    refine mg_run 2 rfl ?_
    refine mg_eq rfl (by omega) (by decide) (fun e2 => yes (by omega)) (fun e2 => ?_)
    refine mg_run 2 rfl ?_
    refine mg_eq rfl (by omega) (by decide) (fun e3 => yes (by omega)) (fun e3 => ?_)
    refine mg_run 2 rfl ?_
    refine mg_eq rfl (by omega) (by decide) (fun e4 => yes (by omega)) (fun e4 => ?_)
    refine mg_run 2 rfl ?_
    refine mg_eq rfl (by omega) (by decide) (fun e5 => yes (by omega)) (fun e5 => ?_)
    have last : ¬ (c = 40 ∧ nb < 20) → mm_Go l sc Y_Mo_atom 0 0 M [some (.ref 54), some (.int (nI c)), x2] [] 51 Q := by
      intro e6
      refine mg_run 2 rfl ?_
      refine mg_ne rfl (by omega) (by decide) (fun e7 => ?_) (fun e7 => yes (by omega))
      refine mg_run 1 rfl ?_
      exact kN (by omega)
    refine mg_run 2 rfl ?_
    refine mg_ne rfl (by omega) (by decide) (fun e6 => last (fun h9 => e6 h9.1)) (fun e6 => ?_)
    refine mg_run 1 rfl ?_
    refine mg_get rfl rfl h.2.1 rfl ?_
    rw [h20]
    refine mg_run 1 rfl ?_
    refine mg_lt rfl (by omega) (by decide) (fun e7 => yes (by omega)) (fun e7 => last (fun h9 => absurd h9.2 (by omega)))
theorem gr_w_3 {ar : List Nat} (h : ¬ dg tp i) (hi : i ≤ tp.length) : gr_w tp (tp.length - i) i (3, ar, be, am) = .inl i := by
  by_cases c : i < tp.length
  · rw [show tp.length - i = (tp.length - (i + 1)) + 1 by omega]
    exact gr_w_n (gr_d0 h)
  · rw [show tp.length - i = 0 by omega, gr_w_0, if_neg]
    show ¬ gr_end 3 ar be am = true
    unfold gr_end
    simp
theorem c_Mo_atom (hb : ∀ j, tp.getD j 0 < 256) (hn : tp.length ≤ 400) (h : mo_is M0 M x A) (hS : rd_S tp nm0 x A i am Ls nm) (hi : i < tp.length) (h32 : ¬ tp.getD i 0 = 32) (h41 : ¬ tp.getD i 0 = 41)
    (hQ : ∀ M' x' A' i' am' Ls' nm', mo_is M0 M' x' A' → tf x x' → ta A A' → i < i' → rd_S tp nm0 x' A' i' am' Ls' nm' → gr_w tp (tp.length - i) i (0, lx_ar Ls, lx_be Ls, am) = gr_w tp (tp.length - i') i' (0, lx_ar Ls', lx_be Ls', am') → Q (.inl none) M')
    (hN : ∀ M' x' A' j, mo_is M0 M' x' A' → tf x x' → ta A A' → x' 23 = nI 1 → x' 3 = nI j → gr_w tp (tp.length - i) i (0, lx_ar Ls, lx_be Ls, am) = .inl j → Q (.inl none) M') : mm_Ct l sc Y_Mo_atom M [.ref 54] Q := by
  obtain ⟨ht, hok, hne, hk, ham, hT, hin, hW⟩ := hS
  cases Ls with
  | nil => exact absurd rfl hne
  | cons a L =>
  obtain ⟨sg, be, kd⟩ := a
  have hbi := hb i
  have em : tp.length - i = (tp.length - (i + 1)) + 1 := by omega
  have hsk : rd_sk tp (tp.length - i) i = i := rd_sk_id (Or.inr h32)
  have hlen : L.length + 1 ≤ i + 1 := lx_ok_len _ _ hok
  have hlt : ∀ e ∈ L, e.2.1 < be := lx_ok_lt L _ hok.2.2.2
  have hbe : be < i + 1 := hok.1
  have hab : am be ≤ i := ham _ List.mem_cons_self
  have hnb : (lx_ar ((sg, be, kd) :: L)).length ≤ 1000 ∨ True := Or.inr trivial
  have hnbl : ∀ (L : lx_L), (lx_ar L).length ≤ L.length := by
    intro L
    induction L with
    | nil => exact Nat.le_refl _
    | cons a L ih =>
      rw [lx_ar]
      split
      · rw [List.length_cons, List.length_cons]
        omega
      · rw [List.length_cons]
        omega
  have hnb1 := hnbl ((sg, be, kd) :: L)
  rw [List.length_cons] at hnb1
  have hinc : gr_inc am be be = am be + 1 := nup_s
  have ham2 : ∀ e ∈ L, gr_inc am be e.2.1 ≤ i := fun e he => by
    have e1 : gr_inc am be e.2.1 = am e.2.1 := nup_n (Nat.ne_of_lt (hlt e he))
    rw [e1]
    exact ham e (List.mem_cons_of_mem _ he)
  refine mm_by k_Mo_atom w_Mo_atom rfl rfl ?_
  refine mg_run 1 rfl ?_
  refine mg_callV [] rfl rfl rfl h.2.1 rfl rfl rfl rfl (c_Mo_see hb h ht hin (fun _ M1 x1 q1 f1 u1 => ?_) (fun c => absurd c (by rw [hsk]; omega)))
  rw [hsk] at u1 ⊢
  refine mg_run 2 rfl ?_
  refine lp_Mo_atom1 q1 u1.2.2.1 hbi (by omega) (fun hat => ?_) (fun hat => ?_)
  · refine mg_run 2 rfl ?_
    refine mg_zne rfl (by decide) (fun _ => ?_) (fun h => absurd h (by decide))
    refine mg_run 1 rfl ?_
    refine mg_callV [] rfl rfl rfl q1.2.1 rfl rfl rfl rfl (c_Mo_beginAtom q1 u1 hlt (by omega) (by omega) (fun M2 x2 A2 q2 f2 g2 u2 => ?_))
    have F2 : tf x x2 := (f1.wk (by decide)).tr f2
    have hok2 : ∀ sg', lx_ok (gr_inc am be) (i + 1) ((sg', be, kd) :: L) := fun sg' => lx_ok_inc hok
    have hT1 : rd_T tp nm0 ((tp.length - (i + 1)) + 1) i 0 am ((sg, be, kd) :: L) nm (lx_k ((sg, be, kd) :: L)) (lx_op ((sg, be, kd) :: L)) 0 := by rw [← em]; exact hT
    -- a simple atom: code v written, one character on
    have simple : ∀ (v : Nat) (M3 : mm_M) (x3 : Nat → Int32) (A3 : Nat → Nat → Int32), mo_is M0 M3 x3 A3 → tf x x3 → ta A A3 → tx_is tp x3 A3 (i + 1) (lx_k ((sg, be, kd) :: L)) (lx_ar ((sg, be, kd) :: L)).length (gr_inc am be) ((lx_at am be sg ++ [v], be, kd) :: L) nm → gr_step (tp.getD i 0) i 0 (lx_ar ((sg, be, kd) :: L)) be am = some (0, lx_ar ((sg, be, kd) :: L), be, gr_inc am be) → (∀ amF, bu_go tp amF ((tp.length - (i + 1)) + 1) i nm (lx_k ((sg, be, kd) :: L)) (lx_op ((sg, be, kd) :: L)) 0 = [v] ++ bu_go tp amF (tp.length - (i + 1)) (i + 1) nm (lx_k ((sg, be, kd) :: L)) (lx_op ((sg, be, kd) :: L)) 0) → tm 3 [v] (lx_k ((sg, be, kd) :: L)) → Q (.inl none) M3 := by
      intro v M3 x3 A3 q3 f3 g3 u3 hg hbu htm
      refine hQ M3 x3 A3 (i + 1) (gr_inc am be) ((lx_at am be sg ++ [v], be, kd) :: L) nm q3 f3 g3 (Nat.lt_succ_self i) ⟨u3, lx_ok_wk (hok2 _) (by omega), by simp, by show lx_k ((sg, be, kd) :: L) ≤ i + 1; omega, fun e he => ?_, rd_T_a hT1 hok hg hbu, by omega, lx_w_a hW htm⟩ ?_
      · rcases List.mem_cons.mp he with rfl | he
        · show gr_inc am be be ≤ i + 1
          rw [hinc]
          omega
        · have := ham2 e he
          omega
      · rw [em]
        exact gr_w_s hg
    refine mg_run 2 rfl ?_
    refine mg_ne rfl (by omega) (by decide) (fun c35 => ?_) (fun c35 => ?_)
    · refine mg_run 2 rfl ?_
      refine mg_ne rfl (by omega) (by decide) (fun c92 => ?_) (fun c92 => ?_)
      · refine mg_run 2 rfl ?_
        refine mg_ne rfl (by omega) (by decide) (fun c40 => ?_) (fun c40 => ?_)
        · refine mg_run 2 rfl ?_
          refine mg_get rfl rfl q2.2.1 rfl ?_
          rw [u2.2.1]
          refine mg_run 1 rfl ?_
          refine mg_addN rfl ?_
          refine mr_put rfl rfl q2 rfl rfl rfl (fun M3 q3 => ?_)
          have f3 : fx [21] x2 (upd x2 21 (nI (i + 1))) := fx.up (by decide) _ _
          have u3 := u2.mv f3 pk_us
          have F3 : tf x (upd x2 21 (nI (i + 1))) := F2.tr (f3.wk (by decide))
          refine mg_run 1 rfl ?_
          refine mg_callS [.int (nI (tp.getD i 0))] rfl rfl rfl rfl rfl rfl (c_Mo_isLetter (fun e => ?_) (fun e => ?_))
          · have e1 := (let_nI (by omega)).mp e
            refine mg_zeq rfl (by decide) (fun h => absurd h (by decide)) (fun _ => ?_)
            refine mg_run 2 rfl ?_
            refine mg_callV [.int (nI (tp.getD i 0))] rfl rfl rfl q3.2.1 rfl rfl rfl rfl (c_Mo_variable q3 u3 (by omega) e1.1 e1.2 (fun M4 x4 A4 q4 f4 g4 u4 => ?_))
            refine mg_run 1 rfl ?_
            exact mg_vr rfl rfl rfl rfl (simple _ M4 x4 A4 q4 (F3.tr f4) (g2.tr g4) u4 (gr_le1 e1) (fun amF => bu_le1 e1) (tm_mean e1.1 e1.2 _ (Nat.le_refl _)))
          · have e1 : ¬ (97 ≤ tp.getD i 0 ∧ tp.getD i 0 ≤ 122) := fun h9 => e ((let_nI (by omega)).mpr h9)
            have e2 : tp.getD i 0 = 83 ∨ tp.getD i 0 = 75 ∨ tp.getD i 0 = 73 := by unfold is_at at hat; omega
            refine mg_zeq rfl (by decide) (fun _ => ?_) (fun h => absurd h (by decide))
            have wr9 : mm_Go l sc Y_Mo_atom 0 0 M3 [some (.ref 54), some (.int (nI (tp.getD i 0))), some (.int (nI 1))] [.int (xc (tp.getD i 0)), .ref 54] 193 Q := by
              refine mg_callV [.int (xc (tp.getD i 0))] rfl rfl rfl q3.2.1 rfl rfl rfl rfl (tx_put q3 u3 (fun M4 x4 A4 q4 f4 g4 u4 => ?_))
              exact mg_vr rfl rfl rfl rfl (simple _ M4 x4 A4 q4 (F3.tr f4) (g2.tr g4) u4 (gr_co e2) (fun amF => bu_co e2) (tm_com e2))
            refine mg_run 3 rfl ?_
            refine mg_ne rfl (by omega) (by decide) (fun c1 => ?_) (fun c1 => ?_)
            · refine mg_run 2 rfl ?_
              refine mg_ne rfl (by omega) (by decide) (fun c2 => ?_) (fun c2 => ?_)
              · have ec : nI 20003 = xc (tp.getD i 0) := by rw [show tp.getD i 0 = 73 by omega]; rfl
                refine mg_run 1 rfl ?_
                rw [ec]
                exact wr9
              · have ec : nI 20002 = xc (tp.getD i 0) := by rw [c2]; rfl
                refine mg_run 2 rfl ?_
                rw [ec]
                exact wr9
            · have ec : nI 20001 = xc (tp.getD i 0) := by rw [c1]; rfl
              refine mg_run 2 rfl ?_
              rw [ec]
              exact wr9
        · have hnb20 : (lx_ar ((sg, be, kd) :: L)).length < 20 := by unfold is_at at hat; omega
          have hg := gr_op (tp := tp) (i := i) (ar := lx_ar ((sg, be, kd) :: L)) (be := be) (am := am) c40 hnb20
          have hT2 := rd_T_o (k' := lx_k ((sg, be, kd) :: L)) (na' := 0) hT1 hok hg (fun amF => bu_op c40 (by rw [lx_op_len]; exact hnb20))
          refine mg_run 2 rfl ?_
          refine mg_get rfl rfl q2.2.1 rfl ?_
          rw [u2.2.1]
          refine mg_run 1 rfl ?_
          refine mg_addN rfl ?_
          refine mr_put rfl rfl q2 rfl rfl rfl (fun M3 q3 => ?_)
          have f3 : fx [21] x2 (upd x2 21 (nI (i + 1))) := fx.up (by decide) _ _
          have u3 := u2.mv f3 pk_us
          refine mg_run 2 rfl ?_
          refine mg_get rfl rfl q3.2.1 rfl ?_
          rw [u3.2.2.1]
          refine mg_run 1 rfl ?_
          refine mg_addN rfl ?_
          refine mr_put rfl rfl q3 rfl rfl rfl (fun M4 q4 => ?_)
          have u4 := u3.br (nb' := (lx_ar ((sg, be, kd) :: L)).length + 1)
          refine mg_run 2 rfl ?_
          refine mg_callV [.int (kv 1)] rfl rfl rfl q4.2.1 rfl rfl rfl rfl (c_Mo_openTerm (be := i + 1) (kd := 1) q4 u4 (by rw [List.length_cons]; omega) (fun e he => ?_) (fun M5 x5 A5 q5 f5 g5 u5 => ?_))
          · have := lx_ok_lt _ _ (hok2 (lx_at am be sg)) e he
            omega
          · refine mg_run 1 rfl ?_
            have ek : lx_k (([], i + 1, 1) :: (lx_at am be sg, be, kd) :: L) = lx_k ((sg, be, kd) :: L) := Nat.zero_add _
            have ea : lx_ar (([], i + 1, 1) :: (lx_at am be sg, be, kd) :: L) = be :: lx_ar ((sg, be, kd) :: L) := rfl
            have eo : lx_op (([], i + 1, 1) :: (lx_at am be sg, be, kd) :: L) = lx_k ((sg, be, kd) :: L) :: lx_op ((sg, be, kd) :: L) := rfl
            refine mg_vr rfl rfl rfl rfl (hQ M5 x5 A5 (i + 1) (nup (gr_inc am be) (i + 1) 0) (([], i + 1, 1) :: (lx_at am be sg, be, kd) :: L) nm q5 ((F2.tr ((f3.wk (by decide)).tr (fx.up (by decide) _ _))).tr f5) (g2.tr g5) (Nat.lt_succ_self i) ⟨?_, lx_ok_psh (hok2 _) (by decide) (by rw [hinc]; omega), by simp, by rw [ek]; omega, fun e he => ?_, ?_, by omega, lx_w_p hW (by rw [show (1 - 1) + lx_k ((sg, be, kd) :: L) = lx_k ((sg, be, kd) :: L) from Nat.zero_add _]; exact lx_w_at hW) nup_s⟩ ?_)
            · rw [ek, ea, List.length_cons]
              exact u5
            · rcases List.mem_cons.mp he with rfl | he
              · show nup (gr_inc am be) (i + 1) 0 (i + 1) ≤ i + 1
                rw [nup_s]
                omega
              · have e9 : e.2.1 < i + 1 := lx_ok_lt _ _ (hok2 (lx_at am be sg)) e he
                rw [nup_n (by omega)]
                rcases List.mem_cons.mp he with rfl | he
                · show gr_inc am be be ≤ i + 1
                  rw [hinc]
                  omega
                · have := ham2 e he
                  omega
            · rw [ek, eo]
              exact hT2
            · rw [em, ea]
              exact gr_w_s hg
      · have hg := gr_ba (tp := tp) (i := i) (ar := lx_ar ((sg, be, kd) :: L)) (be := be) (am := am) c92
        have hT2 := rd_T_a hT1 hok hg (fun amF => bu_ba c92)
        rw [List.append_nil] at hT2
        refine mg_run 1 rfl ?_
        refine mg_callV [] rfl rfl rfl q2.2.1 rfl rfl rfl rfl (c_Mo_abstraction hb hn q2 u2 (lx_w_at hW) (hok2 _) hi hk hT2 (fun M3 x3 A3 i' q' sg' nm' a1 a2 a3 a4 a5 a6 a7 aW a8 a9 a10 => ?_) (fun M3 x3 A3 j a1 a2 a3 a4 a5 a6 => ?_))
        · refine mg_run 1 rfl ?_
          have ek : lx_k (([], i', q' + 1) :: (sg', be, kd) :: L) = lx_k ((sg, be, kd) :: L) + q' := Nat.add_comm _ _
          have ea : lx_ar (([], i', q' + 1) :: (sg', be, kd) :: L) = lx_ar ((sg, be, kd) :: L) := by
            rw [lx_ar, if_neg (show ¬ q' + 1 = 1 by omega)]
            rfl
          have eo : lx_op (([], i', q' + 1) :: (sg', be, kd) :: L) = lx_op ((sg, be, kd) :: L) := by
            rw [lx_op, if_neg (show ¬ q' + 1 = 1 by omega)]
            rfl
          refine mg_vr rfl rfl rfl rfl (hQ M3 x3 A3 i' (nup (gr_inc am be) i' 0) (([], i', q' + 1) :: (sg', be, kd) :: L) nm' a1 (F2.tr a2) (g2.tr a3) a4 ⟨?_, lx_ok_psh (lx_ok_wk (hok2 sg') (by omega)) (by omega) (by rw [hinc]; omega), by simp, by rw [ek]; exact a7, fun e he => ?_, ?_, a5, lx_w_p hW (by rw [Nat.add_sub_cancel, Nat.add_comm q']; exact aW) nup_s⟩ ?_)
          · rw [ek, ea]
            exact a8
          · rcases List.mem_cons.mp he with rfl | he
            · show nup (gr_inc am be) i' 0 i' ≤ i'
              rw [nup_s]
              omega
            · have e9 : e.2.1 < i + 1 := lx_ok_lt _ _ (hok2 sg') e he
              rw [nup_n (by omega)]
              rcases List.mem_cons.mp he with rfl | he
              · show gr_inc am be be ≤ i'
                rw [hinc]
                omega
              · have := ham2 e he
                omega
          · rw [ek, eo]
            exact a9
          · rw [em, ea]
            exact (gr_w_s hg).trans a10
        · refine mg_run 1 rfl ?_
          refine mg_vr rfl rfl rfl rfl (hN M3 x3 A3 j a1 (F2.tr a2) (g2.tr a3) a4 a5 ?_)
          rw [em]
          exact (gr_w_s hg).trans a6
    · have hg := gr_ha (tp := tp) (i := i) (ar := lx_ar ((sg, be, kd) :: L)) (be := be) (am := am) c35
      have hT2 := rd_T_a hT1 hok hg (fun amF => bu_ha c35)
      refine mg_run 1 rfl ?_
      refine mg_callV [] rfl rfl rfl q2.2.1 rfl rfl rfl rfl (c_Mo_numeral hb q2 u2 (by omega) (fun d1 M3 x3 A3 i' a1 a2 a3 a4 a5 a6 => ?_) (fun d1 M3 x3 a1 a2 a3 a4 => ?_))
      · refine mg_run 1 rfl ?_
        have l1 : i + 1 < tp.length := getD_lt (by unfold dg at d1; omega)
        have hg1 := gr_d1 (tp := tp) (i := i + 1) (ar := lx_ar ((sg, be, kd) :: L)) (be := be) (am := gr_inc am be) d1
        have em1 : tp.length - (i + 1) = (tp.length - (i + 2)) + 1 := by omega
        rw [em1] at hT2
        have hT3 := rd_T_e hT2 hg1 (fun amF => bu_sp (Or.inr d1))
        rw [List.append_nil] at hT3
        have hw1 : gr_w tp (tp.length - i) i (0, lx_ar ((sg, be, kd) :: L), be, am) = gr_w tp (tp.length - (i + 2)) (i + 2) (4, lx_ar ((sg, be, kd) :: L), be, gr_inc am be) := by
          rw [em, gr_w_s hg, em1]
          exact gr_w_s hg1
        have fin : i < i' → i' ≤ tp.length → rd_T tp nm0 (tp.length - i') i' 0 (gr_inc am be) ((lx_at am be sg ++ bu_num (ta_num tp i), be, kd) :: L) nm (lx_k ((sg, be, kd) :: L)) (lx_op ((sg, be, kd) :: L)) 0 → gr_w tp (tp.length - i) i (0, lx_ar ((sg, be, kd) :: L), be, am) = gr_w tp (tp.length - i') i' (0, lx_ar ((sg, be, kd) :: L), be, gr_inc am be) → Q (.inl none) M3 := by
          intro k1 k2 k3 k4
          refine hQ M3 x3 A3 i' (gr_inc am be) ((lx_at am be sg ++ bu_num (ta_num tp i), be, kd) :: L) nm a1 (F2.tr a2) (g2.tr a3) k1 ⟨a6, lx_ok_wk (hok2 _) (by omega), by simp, by show lx_k ((sg, be, kd) :: L) ≤ i'; omega, fun e he => ?_, k3, k2, lx_w_a hW (tm_num _ _)⟩ k4
          rcases List.mem_cons.mp he with rfl | he
          · show gr_inc am be be ≤ i'
            rw [hinc]
            omega
          · have := ham2 e he
            omega
        refine mg_vr rfl rfl rfl rfl ?_
        by_cases d2 : 48 ≤ tp.getD (i + 2) 0 ∧ tp.getD (i + 2) 0 ≤ 57
        · have e' := a4 d2
          have l2 : i + 2 < tp.length := getD_lt (by omega)
          subst e'
          have hg2 := gr_d2 (tp := tp) (i := i + 2) (ar := lx_ar ((sg, be, kd) :: L)) (be := be) (am := gr_inc am be) d2
          have em2 : tp.length - (i + 2) = (tp.length - (i + 3)) + 1 := by omega
          rw [em2] at hT3
          have hT4 := rd_T_e hT3 hg2 (fun amF => bu_sp (Or.inr d2))
          rw [List.append_nil] at hT4
          refine fin (by omega) (by omega) hT4 ?_
          rw [hw1, em2]
          exact gr_w_s hg2
        · have e' := a5 d2
          subst e'
          have hw4 : ∀ am', gr_w tp (tp.length - (i + 2)) (i + 2) (4, lx_ar ((sg, be, kd) :: L), be, am') = gr_w tp (tp.length - (i + 2)) (i + 2) (0, lx_ar ((sg, be, kd) :: L), be, am') := fun am' => gr_w_4 (Or.inr d2)
          refine fin (by omega) (by omega) (fun amF hF => hT3 amF ?_) ?_
          · exact (hw4 _).trans hF
          · rw [hw1]
            exact hw4 _
      · refine mg_run 1 rfl ?_
        refine mg_vr rfl rfl rfl rfl (hN M3 x3 A2 (i + 1) a1 (F2.tr a2) g2 a3 a4 ?_)
        rw [em, show gr_w tp (tp.length - (i + 1) + 1) i (0, lx_ar ((sg, be, kd) :: L), lx_be ((sg, be, kd) :: L), am) = gr_w tp (tp.length - (i + 1)) (i + 1) (3, lx_ar ((sg, be, kd) :: L), be, gr_inc am be) from gr_w_s hg]
        exact gr_w_3 d1 (by omega)
  · refine mg_run 2 rfl ?_
    refine mg_zne rfl (by decide) (fun h => absurd h (by decide)) (fun _ => ?_)
    refine mg_run 2 rfl ?_
    refine mg_get rfl rfl q1.2.1 rfl ?_
    rw [u1.2.1]
    refine mg_callV [.int (nI i)] rfl rfl rfl q1.2.1 rfl rfl rfl rfl (c_Mo_fail q1 u1.2.2.2.1.1 (fun M2 q2 => ?_))
    unfold is_at at hat
    refine mg_vr rfl rfl rfl rfl (hN M2 _ A i q2 ((f1.wk (by decide)).tr ((fx.up (by decide) _ _).tr (fx.up (by decide) _ _))) (fa.rf _ _) (by rw [pk_un (by decide), pk_us]) pk_us ?_)
    rw [em]
    exact gr_w_n (gr_no h32 h41 (show ¬ (tp.getD i 0 = 40 ∧ (lx_ar ((sg, be, kd) :: L)).length < 20) by omega) (by omega) (by omega) (by omega) (by omega))
end
