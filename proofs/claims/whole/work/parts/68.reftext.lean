/-! The reference: text and read. -/
section
variable {l : Launch} {sc : Nat × (Nat → Int32)} {M0 M : mm_M} {Q : mm_O → mm_M → Prop} {x : Nat → Int32} {A : Nat → Nat → Int32} {tp : List Nat} {i k nb : Nat} {am : Nat → Nat} {nm nm0 : Nat → Int32} {Ls L : lx_L} {sg : List Nat} {be kd : Nat}
theorem c_Mo_closeA {b : Nat} (h : mo_is M0 M x A) (ht : tx_is tp x A i (lx_k ((sg, be, kd) :: L)) nb am ((sg, be, kd) :: L) nm) (hok : lx_ok am b ((sg, be, kd) :: L)) (hlen : L.length < 422) (hk : lx_k ((sg, be, kd) :: L) ≤ 900) (ham : ∀ e ∈ (sg, be, kd) :: L, am e.2.1 ≤ 1000) (ha : 1 ≤ am be)
    (hQ : ∀ M' x', mo_is M0 M' x' A → tf x x' → tx_is tp x' A i (lx_k (lx_cl [] ((sg, be, kd) :: L))) nb am (lx_cl [] ((sg, be, kd) :: L)) nm → Q (.inl (some (.int (nI 1)))) M') : mm_Ct l sc Y_Mo_closeAbstractions M [.ref 54] Q := by
  refine mm_by k_Mo_closeAbstractions w_Mo_closeAbstractions rfl rfl ?_
  exact lp_Mo_closeA L sg be kd b M x h ht hok hlen hk ham ha hQ
theorem lp_Mo_textW (h : mo_is M0 M x A) (h23 : x 23 = nI 1) {y2 : Option Value} (hQ : Q (.inl none) M) : mm_Go l sc Y_Mo_text 0 0 M [some (.ref 54), some (.int (nI 1)), y2] [] 42 Q := by
  refine mg_run 1 rfl ?_
  refine mg_zeq rfl (by decide) (fun h => absurd h (by decide)) (fun _ => ?_)
  refine mg_run 1 rfl ?_
  refine mg_get rfl rfl h.2.1 rfl ?_
  rw [h23]
  refine mg_zne rfl (by decide) (fun _ => ?_) (fun h => absurd h (by decide))
  exact mg_vr rfl rfl rfl rfl hQ
theorem lp_Mo_textM {y2 : Option Value} (hQ : Q (.inl none) M) : mm_Go l sc Y_Mo_text 0 0 M [some (.ref 54), some (.int (nI 0)), y2] [] 42 Q := by
  refine mg_run 1 rfl ?_
  refine mg_zeq rfl (by decide) (fun _ => ?_) (fun h => absurd h (by decide))
  exact mg_vr rfl rfl rfl rfl hQ
theorem lp_Mo_text162 (z2 : Int32) (h : mo_is M0 M x A) (h23 : x 23 = nI 1) {y2 : Option Value}
    (hQ : ∀ M' x', mo_is M0 M' x' A → fx [20] x x' → Q (.inl none) M') : mm_Go l sc Y_Mo_text 0 0 M [some (.ref 54), some (.int (nI 1)), y2] [.int z2, .ref 54] 162 Q := by
  refine mr_put rfl rfl h rfl rfl rfl (fun M4 q4 => ?_)
  refine mg_run 2 rfl ?_
  have f4 : fx [20] x (upd x 20 z2) := fx.up (by decide) _ _
  exact lp_Mo_textW q4 ((f4 23 (by decide)).trans h23) (hQ M4 _ q4 f4)
theorem lp_Mo_text135 (h : mo_is M0 M x A) (h23 : x 23 = nI 1) {p t nb : Nat} (h21 : x 21 = nI p) (h17 : x 17 = nI (t + 1)) (h20 : x 20 = nI nb) {y2 : Option Value}
    (hQ : ∀ M' x', mo_is M0 M' x' A → fx [17, 20, 21] x x' → Q (.inl none) M') : mm_Go l sc Y_Mo_text 0 0 M [some (.ref 54), some (.int (nI 1)), y2] [] 135 Q := by
  refine mg_run 2 rfl ?_
  refine mg_get rfl rfl h.2.1 rfl ?_
  rw [h21]
  refine mg_run 1 rfl ?_
  refine mg_addN rfl ?_
  refine mr_put rfl rfl h rfl rfl rfl (fun M2 q2 => ?_)
  have f2 : fx [21] x (upd x 21 (nI (p + 1))) := fx.up (by decide) _ _
  generalize upd x 21 (nI (p + 1)) = x2 at q2 f2
  refine mg_run 2 rfl ?_
  refine mg_get rfl rfl q2.2.1 rfl ?_
  rw [f2 17 (by decide), h17]
  refine mg_run 1 rfl ?_
  refine mg_subN rfl (by omega) ?_
  refine mr_put rfl rfl q2 rfl rfl rfl (fun M3 q3 => ?_)
  have f3 : fx [17] x2 (upd x2 17 (nI (t + 1 - 1))) := fx.up (by decide) _ _
  generalize upd x2 17 (nI (t + 1 - 1)) = x3 at q3 f3
  refine mg_run 2 rfl ?_
  refine mg_get rfl rfl q3.2.1 rfl ?_
  rw [f3 20 (by decide), f2 20 (by decide), h20]
  refine mg_run 1 rfl ?_
  refine mg_sub1 rfl ?_
  exact lp_Mo_text162 _ q3 (by rw [f3 23 (by decide), f2 23 (by decide), h23]) (fun M4 x4 q4 f4 => hQ M4 x4 q4 (((f2.wk (by decide)).tr (f3.wk (by decide))).tr (f4.wk (by decide))))
/-- a closing bracket that is wrong -/
theorem lp_Mo_textF (h : mo_is M0 M x A) (h23 : x 23 = nI 0) {p t nb : Nat} (h21 : x 21 = nI p) (h17 : x 17 = nI (t + 1)) (h20 : x 20 = nI nb) {y2 : Option Value}
    (hN : ∀ M' x', mo_is M0 M' x' A → tf x x' → x' 23 = nI 1 → x' 3 = nI p → Q (.inl none) M') : mm_Go l sc Y_Mo_text 0 0 M [some (.ref 54), some (.int (nI 1)), y2] [] 127 Q := by
  refine mg_run 2 rfl ?_
  refine mg_get rfl rfl h.2.1 rfl ?_
  rw [h21]
  refine mg_callV [.int (nI p)] rfl rfl rfl h.2.1 rfl rfl rfl rfl (c_Mo_fail h h23 (fun M1 q1 => ?_))
  have f1 : fx [3, 23] x (upd (upd x 23 (nI 1)) 3 (nI p)) := (fx.up (by decide) _ _).tr (fx.up (by decide) _ _)
  have e23 : upd (upd x 23 (nI 1)) 3 (nI p) 23 = nI 1 := by rw [pk_un (by decide), pk_us]
  have e3 : upd (upd x 23 (nI 1)) 3 (nI p) 3 = nI p := pk_us
  refine lp_Mo_text135 q1 e23 ((f1 21 (by decide)).trans h21) ((f1 17 (by decide)).trans h17) ((f1 20 (by decide)).trans h20) (fun M2 x2 q2 f2 => hN M2 x2 q2 ((f1.wk (by decide)).tr (f2.wk (by decide))) ?_ ?_)
  · rw [f2 23 (by decide)]
    exact e23
  · rw [f2 3 (by decide)]
    exact e3
/-- an end of the text that is wrong -/
theorem lp_Mo_textE (h : mo_is M0 M x A) (ht : tx_is tp x A i k nb am Ls nm) {y2 : Option Value}
    (hN : ∀ M' x', mo_is M0 M' x' A → tf x x' → x' 23 = nI 1 → x' 3 = nI tp.length → Q (.inl none) M') : mm_Go l sc Y_Mo_text 0 0 M [some (.ref 54), some (.int (nI 0)), y2] [] 87 Q := by
  refine mg_run 2 rfl ?_
  refine mg_get rfl rfl h.2.1 rfl ?_
  rw [ht.1.1]
  refine mg_callV [.int (nI tp.length)] rfl rfl rfl h.2.1 rfl rfl rfl rfl (c_Mo_fail h ht.2.2.2.1.1 (fun M1 q1 => ?_))
  refine mg_run 2 rfl ?_
  refine lp_Mo_textM (hN M1 _ q1 ((fx.up (by decide) _ _).tr (fx.up (by decide) _ _)) ?_ pk_us)
  rw [pk_un (by decide), pk_us]
theorem lp_Mo_text (hb : ∀ j, tp.getD j 0 < 256) (hn : tp.length ≤ 400) : ∀ m i (am : Nat → Nat) (Ls : lx_L) (nm : Nat → Int32) (M : mm_M) (x : Nat → Int32) (A : Nat → Nat → Int32) (y2 : Option Value), mo_is M0 M x A → rd_S tp nm0 x A i am Ls nm → tp.length - i < m →
    (∀ amF M' x' A', gr_w tp (tp.length - i) i (0, lx_ar Ls, lx_be Ls, am) = .inr amF → mo_is M0 M' x' A' → tf x x' → ta A A' → x' 23 = nI 0 → x' 3 = -1 → nx_is x' A' (te_bt tp amF nm0) → tm 3 (te_bt tp amF nm0) 0 → Q (.inl none) M') →
    (∀ j M' x' A', gr_w tp (tp.length - i) i (0, lx_ar Ls, lx_be Ls, am) = .inl j → mo_is M0 M' x' A' → tf x x' → ta A A' → x' 23 = nI 1 → x' 3 = nI j → Q (.inl none) M') →
    mm_Go l sc Y_Mo_text 0 0 M [some (.ref 54), some (.int (nI 1)), y2] [] 42 Q := by
  intro m
  induction m with
  | zero =>
    intro i am Ls nm M x A y2 h hS hm
    exact absurd hm (Nat.not_lt_zero _)
  | succ m ih =>
    intro i am Ls nm M x A y2 h hS hm hQ hN
    obtain ⟨ht, hok, hne, hk, ham, hT, hin, hW⟩ := hS
    obtain ⟨s1, s2, s3⟩ := rd_sk_ok (tp := tp) (tp.length - i) i
    have hw := rd_sk_w (tp := tp) (ar := lx_ar Ls) (be := lx_be Ls) (am := am) (show 0 < 3 by decide) (tp.length - i) i
    have hT2 := rd_sk_T (show 0 < 3 by decide) (tp.length - i) i hT
    rw [show i + (tp.length - i) = tp.length by omega] at hw hT2 s2 s3
    have hlen : Ls.length ≤ i + 1 := lx_ok_len _ _ hok
    refine mg_run 1 rfl ?_
    refine mg_zeq rfl (by decide) (fun h => absurd h (by decide)) (fun _ => ?_)
    refine mg_run 1 rfl ?_
    refine mg_get rfl rfl h.2.1 rfl ?_
    rw [ht.2.2.2.1.1]
    refine mg_zne rfl (by decide) (fun h => absurd h (by decide)) (fun _ => ?_)
    refine mg_run 1 rfl ?_
    refine mg_callV [] rfl rfl rfl h.2.1 rfl rfl rfl rfl (c_Mo_see hb h ht hin (fun hlt M1 x1 q1 f1 u1 => ?_) (fun hlt M1 x1 q1 f1 u1 => ?_))
    · generalize hr : rd_sk tp (tp.length - i) i = r at hw hT2 s1 s2 s3 u1 hlt ⊢
      have hbr := hb r
      have hsr := s3 hlt
      have hok2 : lx_ok am (r + 1) Ls := lx_ok_wk hok (by omega)
      have em : tp.length - r = (tp.length - (r + 1)) + 1 := by omega
      have F1 : tf x x1 := f1.wk (by decide)
      refine mg_run 3 rfl ?_
      refine mg_icmp rfl (fun _ => ?_) (fun e => absurd (Decidable.not_not.mp e) (nI_m1 (by omega)))
      refine mg_run 2 rfl ?_
      refine mg_ne rfl (by omega) (by decide) (fun c => ?_) (fun c => ?_)
      · refine mg_run 1 rfl ?_
        have hS1 : rd_S tp nm0 x1 A r am Ls nm := ⟨u1, hok2, hne, by omega, fun e he => Nat.le_trans (ham e he) s1, hT2, s2, hW⟩
        refine mg_callV [] rfl rfl rfl q1.2.1 rfl rfl rfl rfl (c_Mo_atom hb hn q1 hS1 hlt hsr c (fun M2 x2 A2 i' am' Ls' nm' a1 a2 a3 a4 a5 a6 => ?_) (fun M2 x2 A2 j a1 a2 a3 a4 a5 a6 => ?_))
        · refine mg_run 1 rfl ?_
          have a7 := a5.2.2.2.2.2.2.1
          refine ih i' am' Ls' nm' M2 x2 A2 _ a1 a5 (by omega) (fun amF M' x' A' b0 b1 b2 b3 b4 b5 b6 b7 => hQ amF M' x' A' ?_ b1 ((F1.tr a2).tr b2) (a3.tr b3) b4 b5 b6 b7) (fun j M' x' A' b0 b1 b2 b3 b4 b5 => hN j M' x' A' ?_ b1 ((F1.tr a2).tr b2) (a3.tr b3) b4 b5)
          · rw [hw, a6]
            exact b0
          · rw [hw, a6]
            exact b0
        · refine mg_run 1 rfl ?_
          exact lp_Mo_textW a1 a4 (hN j M2 x2 A2 (by rw [hw, a6]) a1 (F1.tr a2) a3 a4 a5)
      · cases Ls with
        | nil => exact absurd rfl hne
        | cons a L =>
        obtain ⟨sg, be, kd⟩ := a
        have hlen2 : L.length < 422 := by rw [List.length_cons] at hlen; omega
        refine mg_run 1 rfl ?_
        by_cases ca : am be = 0
        · have hkd : kd ≤ 1000 := by
            have : lx_k ((sg, be, kd) :: L) = (kd - 1) + lx_k L := rfl
            omega
          refine mg_callV [] rfl rfl rfl q1.2.1 rfl rfl rfl rfl (c_Mo_close0 q1 u1 hlen2 hkd ca ?_)
          refine mg_zeq rfl (by decide) (fun _ => ?_) (fun h => absurd h (by decide))
          refine lp_Mo_textF q1 u1.2.2.2.1.1 u1.2.1 (t := L.length) u1.2.2.2.2.2.1.1 u1.2.2.1 (fun M' x' b1 b2 b3 b4 => hN r M' x' A ?_ b1 (F1.tr b2) (fa.rf _ _) b3 b4)
          rw [hw, em]
          exact gr_w_n (gr_cn c (Or.inr ca))
        · obtain ⟨sg1, be1, kd1, L1, e1, e2, e3, e4, e5, e6, e7, e9, e10, e8⟩ := lx_cl_ok _ (r + 1) [] hok2 hne
          refine mg_callV [] rfl rfl rfl q1.2.1 rfl rfl rfl rfl (c_Mo_closeA q1 u1 hok2 hlen2 (by omega) (fun e he => Nat.le_trans (ham e he) (by omega)) (by omega) (fun M2 x2 q2 f2 u2 => ?_))
          rw [e1] at u2
          have l17 : x2 17 = nI (L1.length + 1) := u2.2.2.2.2.2.1.1
          have l9 : A 9 L1.length = kv kd1 := u2.2.2.2.2.2.1.2.1.2.1
          have hl1 : L1.length < 422 := by rw [List.length_cons] at e7; omega
          refine mg_zeq rfl (by decide) (fun h => absurd h (by decide)) (fun _ => ?_)
          refine mg_run 1 rfl ?_
          refine mg_get rfl rfl q2.2.1 rfl ?_
          refine mg_run 1 rfl ?_
          refine mg_get rfl rfl q2.2.1 rfl ?_
          rw [l17]
          refine mg_run 1 rfl ?_
          refine mg_subN rfl (by omega) ?_
          rw [Nat.add_sub_cancel]
          refine mr_ild 9 rfl q2 (by decide) (show L1.length < 422 from hl1) ?_
          rw [l9]
          refine mg_run 1 rfl ?_
          have hk12 : kd1 = 0 ∨ kd1 = 1 := by omega
          rcases hk12 with rfl | rfl
          · rw [kv_0]
            refine mg_icmp rfl (fun e => absurd rfl e) (fun _ => ?_)
            refine lp_Mo_textF q2 u2.2.2.2.1.1 u2.2.1 (t := L1.length) l17 u2.2.2.1 (fun M' x' b1 b2 b3 b4 => hN r M' x' A ?_ b1 ((F1.tr f2).tr b2) (fa.rf _ _) b3 b4)
            rw [hw, em]
            refine gr_w_n (gr_cn c (Or.inl ?_))
            show lx_ar ((sg, be, kd) :: L) = []
            have hL1 : L1 = [] := by
              cases L1 with
              | nil => rfl
              | cons a L1 => exact absurd (e3.2.2.1 (by simp)).1 (show ¬ 0 < 0 by decide)
            rw [e4, hL1]
            rfl
          · rw [kv_1]
            refine mg_icmp rfl (fun _ => ?_) (fun e => absurd (Decidable.not_not.mp e) (by decide))
            cases L1 with
            | nil => exact absurd (e3.2.1 rfl) (show ¬ 1 = 0 by decide)
            | cons a2 L2 =>
            obtain ⟨sg2, be2, kd2⟩ := a2
            have ar1 : lx_ar ((sg, be, kd) :: L) = be2 :: lx_ar ((sg2, be2, kd2) :: L2) := by rw [e4, lx_ar, if_pos rfl]; rfl
            have op1 : lx_op ((sg, be, kd) :: L) = lx_k ((sg2, be2, kd2) :: L2) :: lx_op ((sg2, be2, kd2) :: L2) := by rw [e5, lx_op, if_pos rfl]
            have k1 : lx_k ((sg1, be1, 1) :: (sg2, be2, kd2) :: L2) = lx_k ((sg2, be2, kd2) :: L2) := Nat.zero_add _
            have hg : gr_step (tp.getD r 0) r 0 (lx_ar ((sg, be, kd) :: L)) (lx_be ((sg, be, kd) :: L)) am = some (0, lx_ar ((sg2 ++ sg1, be2, kd2) :: L2), be2, am) := by
              rw [ar1]
              exact gr_cs c ca
            have hT3 : rd_T tp nm0 ((tp.length - (r + 1)) + 1) r 0 am ((sg, be, kd) :: L) nm (lx_k ((sg, be, kd) :: L)) (lx_op ((sg, be, kd) :: L)) 0 := by rw [← em]; exact hT2
            have hT4 := rd_T_c (k' := lx_k ((sg2, be2, kd2) :: L2)) (op' := lx_op ((sg2, be2, kd2) :: L2)) (na' := 0) hok2 hne e1 hT3 hg (fun amF => by rw [op1]; exact bu_cs c)
            refine mg_run 2 rfl ?_
            refine mg_get rfl rfl q2.2.1 rfl ?_
            rw [u2.2.1]
            refine mg_run 1 rfl ?_
            refine mg_addN rfl ?_
            refine mr_put rfl rfl q2 rfl rfl rfl (fun M3 q3 => ?_)
            refine mg_run 2 rfl ?_
            refine mg_get rfl rfl q3.2.1 rfl ?_
            rw [pk_un (by decide), l17]
            refine mg_run 1 rfl ?_
            refine mg_subN rfl (by omega) ?_
            refine mr_put rfl rfl q3 rfl rfl rfl (fun M4 q4 => ?_)
            refine mg_run 2 rfl ?_
            refine mg_get rfl rfl q4.2.1 rfl ?_
            rw [pk_un (by decide), pk_un (by decide), u2.2.2.1, ar1]
            refine mg_run 1 rfl ?_
            refine mg_subN rfl (by rw [List.length_cons]; omega) ?_
            refine mr_put rfl rfl q4 rfl rfl rfl (fun M5 q5 => ?_)
            refine mg_run 2 rfl ?_
            obtain ⟨⟨t1, t2, t3⟩, h21, h20, ⟨w1, w2⟩, ⟨kk1, kk2⟩, ⟨l1, l2, l3⟩, n⟩ := u2
            have f5 : fx [17, 20, 21] x2 (upd (upd (upd x2 21 (nI (r + 1))) 17 (nI (((sg2, be2, kd2) :: L2).length + 1 - 1))) 20 (nI ((be2 :: lx_ar ((sg2, be2, kd2) :: L2)).length - 1))) := ((fx.up (by decide) _ _).tr (fx.up (by decide) _ _)).tr (fx.up (by decide) _ _)
            have eo : lx_out ((sg2 ++ sg1, be2, kd2) :: L2) = lx_out ((sg1, be1, 1) :: (sg2, be2, kd2) :: L2) := (List.append_assoc _ _ _).symm
            refine ih (r + 1) am ((sg2 ++ sg1, be2, kd2) :: L2) nm M5 _ A _ q5 ⟨⟨⟨(f5 22 (by decide)).trans t1, t2, t3⟩, ?_, ?_, ⟨(f5 23 (by decide)).trans w1, (f5 3 (by decide)).trans w2⟩, ⟨?_, ?_⟩, ⟨?_, l2.2.2, fun hle => ?_⟩, ?_⟩, ?_, by simp, ?_, ?_, hT4, by omega, ?_⟩ (by omega) (fun amF M' x' A' b0 b1 b2 b3 b4 b5 b6 b7 => hQ amF M' x' A' ?_ b1 ((F1.tr f2).tr ((f5.wk (by decide)).tr b2)) b3 b4 b5 b6 b7) (fun j M' x' A' b0 b1 b2 b3 b4 b5 => hN j M' x' A' ?_ b1 ((F1.tr f2).tr ((f5.wk (by decide)).tr b2)) b3 b4 b5)
            · rw [pk_un (by decide), pk_un (by decide), pk_us]
            · exact pk_us
            · exact (f5 19 (by decide)).trans (kk1.trans (by rw [k1]; rfl))
            · intro j hj
              refine kk2 j ?_
              rw [k1]
              exact hj
            · rw [pk_un (by decide), pk_us]
              rfl
            · rw [eo] at hle
              exact (l3 hle).2
            · rw [eo]
              exact n.fr f5 (fa.rf [] A) (by decide) (by decide) (by decide)
            · have h9 : lx_ok am be1 ((sg2, be2, kd2) :: L2) := e3.2.2.2
              have h8 : be1 < r + 1 := e3.1
              have h7 : lx_ok am be1 ((sg2 ++ sg1, be2, kd2) :: L2) := h9
              exact lx_ok_wk h7 (by omega)
            · have h9 : lx_k ((sg2 ++ sg1, be2, kd2) :: L2) = lx_k ((sg2, be2, kd2) :: L2) := rfl
              rw [h9]
              rw [k1] at e9
              omega
            · intro e he
              have h9 : ∃ e' ∈ (sg1, be1, 1) :: (sg2, be2, kd2) :: L2, e'.2.1 = e.2.1 := by
                rcases List.mem_cons.mp he with rfl | he
                · exact ⟨(sg2, be2, kd2), List.mem_cons_of_mem _ List.mem_cons_self, rfl⟩
                · exact ⟨e, List.mem_cons_of_mem _ (List.mem_cons_of_mem _ he), rfl⟩
              obtain ⟨e', he', hee⟩ := h9
              obtain ⟨e'', he'', hee2⟩ := e10 e' he'
              have h8 := ham e'' he''
              rw [hee2, hee] at h8
              omega
            · obtain ⟨s9, b9, k9, L9, i1, i2, i3⟩ := lx_w_cl L sg [] be kd (r + 1) hok2 (by rw [List.append_nil]; exact hW.2.1 ca) hW.2.2
              rw [e1] at i1
              injection i1 with i4 i5
              injection i4 with i6 i7
              injection i7 with i8 i9
              subst i6 i8 i9 i5
              rw [k1] at i2 i3
              refine ⟨fun h9 => absurd h9 ?_, fun _ => wq_then i3.1 i2, i3.2⟩
              have h7 := (e3.2.2.1 (by simp)).2
              have h7 : 1 ≤ am be2 := h7
              show ¬ am be2 = 0
              omega
            · rw [hw, em]
              exact (gr_w_s hg).trans b0
            · rw [hw, em]
              exact (gr_w_s hg).trans b0
    · rw [hlt] at hw hT2
      cases Ls with
      | nil => exact absurd rfl hne
      | cons a L =>
      obtain ⟨sg, be, kd⟩ := a
      have hlen2 : L.length < 422 := by rw [List.length_cons] at hlen; omega
      have hok2 : lx_ok am (tp.length + 1) ((sg, be, kd) :: L) := lx_ok_wk hok (by omega)
      have F1 : tf x x1 := f1.wk (by decide)
      rw [Nat.sub_self] at hw hT2
      refine mg_run 3 rfl ?_
      refine mg_icmp rfl (fun e => absurd rfl e) (fun _ => ?_)
      refine mg_run 3 rfl ?_
      have wl : ¬ gr_end 0 (lx_ar ((sg, be, kd) :: L)) be am = true → gr_w tp (tp.length - i) i (0, lx_ar ((sg, be, kd) :: L), lx_be ((sg, be, kd) :: L), am) = .inl tp.length := fun h9 => by
        rw [hw, gr_w_0]
        exact if_neg h9
      by_cases ca : am be = 0
      · have hkd : kd ≤ 1000 := by
          have : lx_k ((sg, be, kd) :: L) = (kd - 1) + lx_k L := rfl
          omega
        refine mg_callV [] rfl rfl rfl q1.2.1 rfl rfl rfl rfl (c_Mo_close0 q1 u1 hlen2 hkd ca ?_)
        refine mg_zeq rfl (by decide) (fun _ => ?_) (fun h => absurd h (by decide))
        refine lp_Mo_textE q1 u1 (fun M' x' b1 b2 b3 b4 => hN tp.length M' x' A (wl ?_) b1 (F1.tr b2) (fa.rf _ _) b3 b4)
        unfold gr_end
        rw [ca]
        simp
      · obtain ⟨sg1, be1, kd1, L1, e1, e2, e3, e4, e5, e6, e7, e9, e10, e8⟩ := lx_cl_ok _ (tp.length + 1) [] hok2 hne
        refine mg_callV [] rfl rfl rfl q1.2.1 rfl rfl rfl rfl (c_Mo_closeA q1 u1 hok2 hlen2 (by omega) (fun e he => Nat.le_trans (ham e he) (by omega)) (by omega) (fun M2 x2 q2 f2 u2 => ?_))
        rw [e1] at u2
        have l17 : x2 17 = nI (L1.length + 1) := u2.2.2.2.2.2.1.1
        have l9 : A 9 L1.length = kv kd1 := u2.2.2.2.2.2.1.2.1.2.1
        have hl1 : L1.length < 422 := by rw [List.length_cons] at e7; omega
        refine mg_zeq rfl (by decide) (fun h => absurd h (by decide)) (fun _ => ?_)
        refine mg_run 1 rfl ?_
        refine mg_get rfl rfl q2.2.1 rfl ?_
        refine mg_run 1 rfl ?_
        refine mg_get rfl rfl q2.2.1 rfl ?_
        rw [l17]
        refine mg_run 1 rfl ?_
        refine mg_subN rfl (by omega) ?_
        rw [Nat.add_sub_cancel]
        refine mr_ild 9 rfl q2 (by decide) (show L1.length < 422 from hl1) ?_
        rw [l9]
        refine mg_run 1 rfl ?_
        have hk12 : kd1 = 0 ∨ kd1 = 1 := by omega
        rcases hk12 with rfl | rfl
        · rw [kv_0]
          refine mg_icmp rfl (fun _ => ?_) (fun e => absurd (Decidable.not_not.mp e) (by decide))
          have hL1 : L1 = [] := by
            cases L1 with
            | nil => rfl
            | cons a L1 => exact absurd (e3.2.2.1 (by simp)).1 (show ¬ 0 < 0 by decide)
          have ar0 : lx_ar ((sg, be, kd) :: L) = [] := by rw [e4, hL1]; rfl
          have hwr : gr_w tp (tp.length - i) i (0, lx_ar ((sg, be, kd) :: L), lx_be ((sg, be, kd) :: L), am) = .inr am := by
            rw [hw, gr_w_0, if_pos]
            show gr_end 0 (lx_ar ((sg, be, kd) :: L)) be am = true
            unfold gr_end
            rw [ar0]
            simp
            omega
          refine mg_run 1 rfl ?_
          have h9 := hT2 am (by rw [← hw]; exact hwr)
          rw [List.append_nil] at e6
          rw [lx_fi_self, bu_go, List.append_nil, e6] at h9
          obtain ⟨s9, b9, k9, L9, i1, i2, i3⟩ := lx_w_cl L sg [] be kd (tp.length + 1) hok2 (by rw [List.append_nil]; exact hW.2.1 ca) hW.2.2
          rw [e1] at i1
          injection i1 with i4 i5
          injection i4 with i6 i7
          injection i7 with i8 i9
          subst i6 i8 i9 i5
          refine lp_Mo_textM (hQ am M2 x2 A hwr q2 (F1.tr f2) (fa.rf _ _) u2.2.2.2.1.1 u2.2.2.2.1.2 ?_ ?_)
          · rw [h9]
            exact u2.2.2.2.2.2.2
          · subst hL1
            rw [h9]
            exact i2
        · rw [kv_1]
          refine mg_icmp rfl (fun e => absurd rfl e) (fun _ => ?_)
          refine lp_Mo_textE q2 u2 (fun M' x' b1 b2 b3 b4 => hN tp.length M' x' A (wl ?_) b1 ((F1.tr f2).tr b2) (fa.rf _ _) b3 b4)
          unfold gr_end
          rw [e4, lx_ar, if_pos rfl]
          simp
theorem c_Mo_text (hb : ∀ j, tp.getD j 0 < 256) (am : Nat → Nat) (nm0 : Nat → Int32) (h : mo_is M0 M x A) (hT : tx_tp tp x A)
    (hQ : ∀ amF M' x' A', gr_w tp tp.length 0 (0, [], 0, nup am 0 0) = .inr amF → mo_is M0 M' x' A' → tf x x' → ta A A' → x' 23 = nI 0 → x' 3 = -1 → nx_is x' A' (te_bt tp amF nm0) → tm 3 (te_bt tp amF nm0) 0 → Q (.inl none) M')
    (hN : ∀ j M' x' A', gr_w tp tp.length 0 (0, [], 0, nup am 0 0) = .inl j → mo_is M0 M' x' A' → tf x x' → ta A A' → x' 23 = nI 1 → x' 3 = nI j → Q (.inl none) M') : mm_Ct l sc Y_Mo_text M [.ref 54] Q := by
  refine mm_by k_Mo_text w_Mo_text rfl rfl ?_
  refine mg_run 1 rfl ?_
  refine mg_callV [] rfl rfl rfl h.2.1 rfl rfl rfl rfl (c_Mo_begin h (fun M1 x1 q1 f1 n1 => ?_))
  refine mg_run 2 rfl ?_
  refine mr_put rfl rfl q1 rfl rfl rfl (fun M2 q2 => ?_)
  refine mg_run 2 rfl ?_
  refine mr_put rfl rfl q2 rfl rfl rfl (fun M3 q3 => ?_)
  refine mg_run 2 rfl ?_
  refine mr_put rfl rfl q3 rfl rfl rfl (fun M4 q4 => ?_)
  refine mg_run 2 rfl ?_
  refine mr_put rfl rfl q4 rfl rfl rfl (fun M5 q5 => ?_)
  refine mg_run 2 rfl ?_
  refine mr_put rfl rfl q5 rfl rfl rfl (fun M6 q6 => ?_)
  refine mg_run 2 rfl ?_
  refine mr_put rfl rfl q6 rfl rfl rfl (fun M7 q7 => ?_)
  have f7 : fx [3, 17, 19, 20, 21, 23] x1 (upd (upd (upd (upd (upd (upd x1 17 (nI 0)) 19 (nI 0)) 20 (nI 0)) 21 (nI 0)) 23 (nI 0)) 3 (-1)) := ((((((fx.up (by decide) _ _).tr (fx.up (by decide) _ _)).tr (fx.up (by decide) _ _)).tr (fx.up (by decide) _ _)).tr (fx.up (by decide) _ _)).tr (fx.up (by decide) _ _))
  have u7 : tx_is tp (upd (upd (upd (upd (upd (upd x1 17 (nI 0)) 19 (nI 0)) 20 (nI 0)) 21 (nI 0)) 23 (nI 0)) 3 (-1)) A 0 0 0 am [] nm0 := by
    refine ⟨⟨(f7 22 (by decide)).trans ((f1 22 (by decide)).trans hT.1), hT.2⟩, ?_, ?_, ⟨?_, pk_us⟩, ⟨?_, fun j hj => absurd hj (Nat.not_lt_zero j)⟩, ⟨?_, trivial, fun _ => trivial⟩, n1.fr f7 (fa.rf [] A) (by decide) (by decide) (by decide)⟩
    · rw [pk_un (by decide), pk_un (by decide), pk_us]
    · rw [pk_un (by decide), pk_un (by decide), pk_un (by decide), pk_us]
    · rw [pk_un (by decide), pk_us]
    · rw [pk_un (by decide), pk_un (by decide), pk_un (by decide), pk_un (by decide), pk_us]
    · rw [pk_un (by decide), pk_un (by decide), pk_un (by decide), pk_un (by decide), pk_un (by decide), pk_us]
      rfl
  refine mg_run 2 rfl ?_
  refine mg_callV [.int (kv 0)] rfl rfl rfl q7.2.1 rfl rfl rfl rfl (c_Mo_openTerm (be := 0) (kd := 0) q7 u7 (by decide) (fun e he => absurd he (by simp)) (fun M8 x8 A8 q8 f8 g8 u8 => ?_))
  refine mg_run 2 rfl ?_
  have F : tf x x8 := ((f1.wk (by decide)).tr (f7.wk (by decide))).tr f8
  refine lp_Mo_text (nm0 := nm0) hb hT.2.1 (tp.length + 1) 0 (nup am 0 0) [([], 0, 0)] nm0 M8 x8 A8 none q8 ⟨u8, ⟨Nat.zero_lt_succ 0, fun _ => rfl, fun h9 => absurd rfl h9, trivial⟩, by simp, Nat.le_refl _, fun e he => ?_, rd_T0 tp nm0 am, Nat.zero_le _, ⟨fun _ => rfl, fun h9 => absurd nup_s h9, trivial⟩⟩ (Nat.lt_succ_self _) (fun amF M' x' A' b0 b1 b2 b3 b4 b5 b6 b7 => hQ amF M' x' A' b0 b1 (F.tr b2) (g8.tr b3) b4 b5 b6 b7) (fun j M' x' A' b0 b1 b2 b3 b4 b5 => hN j M' x' A' b0 b1 (F.tr b2) (g8.tr b3) b4 b5)
  rw [List.mem_singleton] at he
  subst he
  show nup am 0 0 0 ≤ 0
  rw [nup_s]
  exact Nat.le_refl _
end
section
variable {l : Launch} {sc : Nat × (Nat → Int32)} {M0 M : mm_M} {Q : mm_O → mm_M → Prop} {sl : Nat → List Nat} {tp : List Nat} {pl : Int32} {o th : Nat}
theorem lp_Mo_readX {x : Nat → Int32} {A : Nat → Nat → Int32} {s : Int32} (h : mo_is M0 M x A) (hS : st_is A sl) (h2 : x 2 = nI 0) {p : Int32} (h3 : x 3 = p) (h4 : x 4 = nI o)
    (hQ : ∀ M', md_is M0 M' sl [] p o 1 → Q (.inl (some (.int (nI 0)))) M') : mm_Go l sc Y_Mo_read 0 0 M [some (.ref 54), some (.int s)] [.ref 54] 54 Q := by
  refine mg_run 3 rfl ?_
  refine mg_callV [.int (nI 1), .int (nI 0)] rfl rfl rfl h.2.1 rfl rfl rfl rfl (c_Mo_throwing h (a := 1) (b := 0) (by decide) (by decide) (fun h => absurd h (by decide)) (fun _ M1 q1 => ?_) (fun h => absurd h (by decide)))
  refine mg_zeq rfl (by decide) (fun h => absurd h (by decide)) (fun _ => ?_)
  refine mg_run 1 rfl ?_
  refine mg_ir rfl rfl rfl rfl (hQ M1 ⟨_, A, q1, hS, ⟨?_, Nat.zero_le _, fun i hi => absurd hi (Nat.not_lt_zero i)⟩, ?_, ?_, pk_us⟩)
  · rw [pk_un (by decide)]
    exact h2
  · rw [pk_un (by decide)]
    exact h3
  · rw [pk_un (by decide)]
    exact h4
theorem c_Mo_read (h : md_is M0 M sl tp pl o th) (hb : ∀ j, tp.getD j 0 < 256) {a : Nat} (ha : a < 12) (am : Nat → Nat) (nm0 : Nat → Int32)
    (hQ : ∀ amF, gr_w tp tp.length 0 (0, [], 0, nup am 0 0) = .inr amF → (te_bt tp amF nm0).length ≤ 2000 → tm 3 (te_bt tp amF nm0) 0 → ∀ M', md_is M0 M' (sl_up sl a (te_bt tp amF nm0)) [] (-1) o 0 → Q (.inl (some (.int (nI (te_bt tp amF nm0).length)))) M')
    (hG : ∀ amF, gr_w tp tp.length 0 (0, [], 0, nup am 0 0) = .inr amF → 2000 < (te_bt tp amF nm0).length → ∀ M', md_is M0 M' sl [] (-1) o 1 → Q (.inl (some (.int (nI 0)))) M')
    (hN : ∀ j, gr_w tp tp.length 0 (0, [], 0, nup am 0 0) = .inl j → ∀ M', md_is M0 M' sl [] (nI j) o 1 → Q (.inl (some (.int (nI 0)))) M') : mm_Ct l sc Y_Mo_read M [.ref 54, .int (nI a)] Q := by
  obtain ⟨x, A, h1, h2, h3, h4, h5, h6⟩ := h
  refine mm_by k_Mo_read w_Mo_read rfl rfl ?_
  refine mg_run 2 rfl ?_
  refine mg_callS [.int (nI a)] rfl rfl rfl rfl rfl rfl (c_Mo_isSlot (fun _ => ?_) (fun e => absurd e (no_nI ha)))
  refine mg_zne rfl (by decide) (fun _ => ?_) (fun h => absurd h (by decide))
  refine mg_run 2 rfl ?_
  refine mg_callV [.int (nI 0), .int (nI 0)] rfl rfl rfl h1.2.1 rfl rfl rfl rfl (c_Mo_throwing h1 (a := 0) (b := 0) (by decide) (by decide) (fun _ _ M1 q1 => ?_) (fun h => absurd h (by decide)) (fun _ h => absurd h (by decide)))
  refine mg_zeq rfl (by decide) (fun _ => ?_) (fun h => absurd h (by decide))
  refine mg_run 2 rfl ?_
  refine mg_get rfl rfl q1.2.1 rfl ?_
  rw [pk_un (by decide), h3.1]
  refine mr_put rfl rfl q1 rfl rfl rfl (fun M2 q2 => ?_)
  refine mg_run 2 rfl ?_
  refine mr_put rfl rfl q2 rfl rfl rfl (fun M3 q3 => ?_)
  refine mg_run 1 rfl ?_
  have f3 : fx [0, 2, 22] x (upd (upd (upd x 0 (nI 0)) 22 (nI tp.length)) 2 (nI 0)) := ((fx.up (by decide) _ _).tr (fx.up (by decide) _ _)).tr (fx.up (by decide) _ _)
  have T3 : tx_tp tp (upd (upd (upd x 0 (nI 0)) 22 (nI tp.length)) 2 (nI 0)) A := ⟨by rw [pk_un (by decide), pk_us], h3.2.1, h3.2.2⟩
  have e2 : upd (upd (upd x 0 (nI 0)) 22 (nI tp.length)) 2 (nI 0) 2 = nI 0 := pk_us
  have e4 : upd (upd (upd x 0 (nI 0)) 22 (nI tp.length)) 2 (nI 0) 4 = nI o := (f3 4 (by decide)).trans h5
  have e0 : upd (upd (upd x 0 (nI 0)) 22 (nI tp.length)) 2 (nI 0) 0 = nI 0 := by rw [pk_un (by decide), pk_un (by decide), pk_us]
  generalize upd (upd (upd x 0 (nI 0)) 22 (nI tp.length)) 2 (nI 0) = x3 at q3 f3 T3 e2 e4 e0
  refine mg_callV [] rfl rfl rfl q3.2.1 rfl rfl rfl rfl (c_Mo_text hb am nm0 q3 T3 (fun amF M4 x4 A4 k0 q4 f4 g4 w4 p4 n4 tm4 => ?_) (fun j M4 x4 A4 k0 q4 f4 g4 w4 p4 => ?_))
  · have S4 : st_is A4 sl := h2.fr g4 (by decide) (by decide)
    refine mg_run 2 rfl ?_
    refine mg_get rfl rfl q4.2.1 rfl ?_
    rw [w4]
    refine mg_zne rfl (by decide) (fun h => absurd h (by decide)) (fun _ => ?_)
    obtain ⟨b, b1, b2, b3, b4, b5, b6⟩ := id n4
    refine mg_run 1 rfl ?_
    refine mg_get rfl rfl q4.2.1 rfl ?_
    rw [b5]
    refine mg_zeq rfl (by omega) (fun c => ?_) (fun c => ?_)
    · obtain ⟨o1, -⟩ := b1.ok c
      refine mg_run 2 rfl ?_
      refine mg_callV [.int (nI 0), .int (nI 0)] rfl rfl rfl q4.2.1 rfl rfl rfl rfl (c_Mo_throwing q4 (a := 0) (b := 0) (by decide) (by decide) (fun _ _ M5 q5 => ?_) (fun h => absurd h (by decide)) (fun _ h => absurd h (by decide)))
      refine mg_zeq rfl (by decide) (fun _ => ?_) (fun h => absurd h (by decide))
      refine mg_run 1 rfl ?_
      have f5 : fx [0] x4 (upd x4 0 (nI 0)) := fx.up (by decide) _ _
      have n5 := n4.fr f5 (fa.rf [] A4) (by decide) (by decide) (by decide)
      refine mg_callV [] rfl rfl rfl q5.2.1 rfl rfl rfl rfl (c_Mo_settle q5 n5 o1 (fun M6 x6 A6 q6 f6 g6 r6 => ?_))
      refine mg_run 2 rfl ?_
      have S6 : st_is A6 sl := S4.fr g6 (by decide) (by decide)
      refine mg_callV [.int (nI a)] rfl rfl rfl q6.2.1 rfl rfl rfl rfl (c_Mo_store ha q6 r6 S6 (fun M7 A7 q7 g7 S7 => ?_))
      refine mg_run 1 rfl ?_
      refine mg_get rfl rfl q7.2.1 rfl ?_
      rw [r6.1]
      refine mg_ir rfl rfl rfl rfl (hQ amF k0 o1 tm4 M7 ⟨x6, A7, q7, S7, ⟨?_, Nat.zero_le _, fun i hi => absurd hi (Nat.not_lt_zero i)⟩, ?_, ?_, ?_⟩)
      · rw [f6 2 (by decide), f5 2 (by decide), f4 2 (by decide)]
        exact e2
      · rw [f6 3 (by decide), f5 3 (by decide)]
        exact p4
      · rw [f6 4 (by decide), f5 4 (by decide), f4 4 (by decide)]
        exact e4
      · rw [f6 0 (by decide), pk_us]
    · refine lp_Mo_readX q4 S4 ?_ p4 ?_ (hG amF k0 (b1.not c))
      · rw [f4 2 (by decide)]
        exact e2
      · rw [f4 4 (by decide)]
        exact e4
  · have S4 : st_is A4 sl := h2.fr g4 (by decide) (by decide)
    refine mg_run 2 rfl ?_
    refine mg_get rfl rfl q4.2.1 rfl ?_
    rw [w4]
    refine mg_zne rfl (by decide) (fun _ => ?_) (fun h => absurd h (by decide))
    refine lp_Mo_readX q4 S4 ?_ p4 ?_ (hN j k0)
    · rw [f4 2 (by decide)]
      exact e2
    · rw [f4 4 (by decide)]
      exact e4
theorem c_Mo_readX (h : md_is M0 M sl tp pl o th) {z : Int32} (hx : no_slot z) (hQ : ∀ M', md_is M0 M' sl tp pl o 1 → Q (.inl (some (.int (nI 0)))) M') : mm_Ct l sc Y_Mo_read M [.ref 54, .int z] Q := by
  obtain ⟨x, A, h1, h2, h3, h4, h5, h6⟩ := h
  refine mm_by k_Mo_read w_Mo_read rfl rfl ?_
  refine mg_run 2 rfl ?_
  refine mg_callS [.int z] rfl rfl rfl rfl rfl rfl (c_Mo_isSlot (fun e => absurd hx e) (fun _ => ?_))
  refine mg_zne rfl (by decide) (fun h => absurd h (by decide)) (fun _ => ?_)
  refine mg_run 3 rfl ?_
  refine mg_callV [.int (nI 1), .int (nI 0)] rfl rfl rfl h1.2.1 rfl rfl rfl rfl (c_Mo_throwing h1 (a := 1) (b := 0) (by decide) (by decide) (fun h => absurd h (by decide)) (fun _ M1 q1 => ?_) (fun h => absurd h (by decide)))
  refine mg_zeq rfl (by decide) (fun h => absurd h (by decide)) (fun _ => ?_)
  refine mg_run 1 rfl ?_
  exact mg_ir rfl rfl rfl rfl (hQ M1 (md_th h2 h3 h4 h5 q1))
end
