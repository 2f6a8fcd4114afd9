/-! The bench: read. -/
section
variable {l : Launch} {sc : Nat × (Nat → Int32)} {M : mm_M} {Q : mm_O → mm_M → Prop} {sl : Nat → List Nat} {tp : List Nat} {pl : Int32} {o : Nat}
theorem nI_m1 {j : Nat} (hj : j < 2 ^ 31) : ¬ nI j = -1 := by
  intro h
  have h2 := congrArg Int32.toInt h
  rw [nI_toInt hj] at h2
  have h3 : (-1 : Int32).toInt = -1 := by decide
  rw [h3] at h2
  omega
theorem on_0 (e : va_E) : mm_on (mm_rg 0 0) M (M.set 0 e) := mm_on.set M _ (by unfold mm_rg; omega)
theorem gr_end_35 {G : gr_G} (h : gr_in tp tp.length G.1 G.2.1 G.2.2.1 G.2.2.2) (he : gr_end G.1 G.2.1 G.2.2.1 G.2.2.2 = true) : ∀ j, j < tp.length → tp.getD j 0 = 35 → 48 ≤ tp.getD (j + 1) 0 := by
  intro j hj e
  rcases h.2.2.2.2 j hj e with ⟨-, h2⟩ | ⟨-, h2⟩
  · exact h2
  · have h3 := (of_decide_eq_true he).1
    omega
theorem gr_go_end : ∀ m i (G G' : gr_G), gr_go tp m i G = .inr G' → gr_end G'.1 G'.2.1 G'.2.2.1 G'.2.2.2 = true := by
  intro m
  induction m with
  | zero =>
    intro i G G' h
    rw [gr_go] at h
    split at h
    · next h9 => cases h; exact h9
    · cases h
  | succ m ih =>
    intro i G G' h
    rw [gr_go] at h
    split at h
    · cases h
    · exact ih _ _ _ h
theorem c_LB_read (hl : l.stackTraces = false) (h : lb_is M sl tp pl o) (hb : ∀ j, tp.getD j 0 < 256) {a : Nat} (ha : a < 12)
    (hQ : ∀ am nm G, gr_go tp tp.length 0 (0, [], 0, nup am 0 0) = .inr G → (te_bt tp G.2.2.2 nm).length ≤ 2000 → ∀ M', lb_is M' (sl_up sl a (te_bt tp G.2.2.2 nm)) [] (-1) o → mm_on mm_bn M M' → Q (.inl (some (.int (nI (te_bt tp G.2.2.2 nm).length)))) M')
    (hG : ∀ am nm G, gr_go tp tp.length 0 (0, [], 0, nup am 0 0) = .inr G → 2000 < (te_bt tp G.2.2.2 nm).length → ∀ M', lb_is M' sl [] (-1) o → mm_on mm_bn M M' → Q (.inr 0) M')
    (hN : ∀ am j, gr_go tp tp.length 0 (0, [], 0, nup am 0 0) = .inl j → j ≤ tp.length → ∀ M', lb_is M' sl [] (nI j) o → mm_on mm_bn M M' → Q (.inr 0) M') : mm_Ct l sc Y_LB_read M [.ref 0, .int (nI a)] Q := by
  have hT := h.2.2.2.1
  obtain ⟨f, t1, t2, t3, t4⟩ := id hT
  obtain ⟨op, bx, sx, fa, wa, g1, -⟩ := id h.2.2.2.2.1
  refine mm_by k_LB_read w_LB_read rfl rfl ?_
  refine mg_run 2 rfl ?_
  refine mg_callV [.int (nI a)] rfl rfl rfl h.1.1 rfl rfl rfl rfl (c_LB_requireSlot ha ?_)
  refine mg_run 2 rfl ?_
  refine mg_get rfl rfl h.1.1 rfl ?_
  refine mg_run 1 rfl ?_
  refine mg_get rfl rfl h.1.1 rfl ?_
  refine mg_callV [.ref 28] rfl rfl rfl g1 rfl rfl rfl rfl (c_Gr_firstWrong hb hT h.2.2.2.2.1 (fun am G e M1 p1 p2 p3 => ?_) (fun am j e hj M1 p1 p3 => ?_))
  · have h1 := h.gra p1.gra p3
    refine mg_put rfl rfl h1.1.1 rfl rfl ?_
    have h2 := h1.place (-1)
    have p4 := p1.keep (on_0 (M := M1) (.inr (7, [.ref 1, .ref 26, .ref 28, .ref 30, .ref 33, .ref 36, .ref 39, .ref 47, .int (-1)]))) (by decide)
    have hon2 : mm_on mm_bn M (M1.set 0 (.inr (7, [.ref 1, .ref 26, .ref 28, .ref 30, .ref 33, .ref 36, .ref 39, .ref 47, .int (-1)]))) := (p3.bn (by decide)).tr ((on_0 _).bn (by decide))
    obtain ⟨kx, ox, nmx, brx, b1, -⟩ := id h2.2.2.2.2.2.1
    refine mg_run 1 rfl ?_
    refine mg_get rfl rfl h2.1.1 rfl ?_
    refine mg_run 1 rfl ?_
    refine mg_icmp rfl (fun h9 => absurd rfl h9) (fun _ => ?_)
    refine mg_run 1 rfl ?_
    refine mg_get rfl rfl h2.1.1 rfl ?_
    refine mg_run 1 rfl ?_
    refine mg_get rfl rfl h2.1.1 rfl ?_
    refine mg_run 1 rfl ?_
    refine mg_get rfl rfl h2.1.1 rfl ?_
    refine mg_run 1 rfl ?_
    refine mg_get rfl rfl h2.1.1 rfl ?_
    refine mg_callV [.ref 28, .ref 30, .ref 26] rfl rfl rfl b1 rfl rfl rfl rfl (c_Bu_build hb (fun j h8 h9 => Nat.le_trans (p2.2.2.2.1 j h8 h9) t4) (gr_end_35 p2 (gr_go_end _ _ _ _ e)) h2 p4 (fun nm M3 bf q1 q2 q3 q4 => ?_))
    have hT3 := q1.2.2.2.1
    obtain ⟨f3, t31, -⟩ := id hT3
    refine mg_run 1 rfl ?_
    refine mg_get rfl rfl q1.1.1 rfl ?_
    refine mg_callV [] rfl rfl rfl t31 rfl rfl rfl rfl (c_Ta_clear hT3 (fun M4 r1 r2 => ?_))
    have h4 := q1.tape r1 r2.te
    have W4 := q2.keep r2.te (mm_rg_n (by decide)) (mm_rg_n (by decide))
    have hon4 := (hon2.tr q4).tr (r2.te.bn (by decide))
    obtain ⟨fw, w4, -, -, -, gle⟩ := id W4
    refine mg_run 1 rfl ?_
    refine mg_get rfl rfl h4.1.1 rfl ?_
    refine mg_run 1 rfl ?_
    refine mg_icmp rfl (fun _ => ?_) (fun h9 => absurd rfl h9)
    refine mg_run 1 rfl ?_
    refine mg_get rfl rfl h4.1.1 rfl ?_
    refine mg_callV [] rfl rfl rfl w4 rfl rfl rfl rfl (c_Te_isTooGreat W4 ?_)
    refine mg_zeq rfl (by omega) (fun h0 => ?_) (fun h0 => ?_)
    · obtain ⟨e1, e2⟩ := q3.ok h0
      have W5 := te_is_wr W4 e2
      obtain ⟨ga, hga⟩ := h4.2.1 a ha
      obtain ⟨fc, c1, -⟩ := id hga
      refine mg_run 1 rfl ?_
      refine mg_get rfl rfl h4.1.1 rfl ?_
      refine mg_run 1 rfl ?_
      refine mg_aldN rfl h4.1.2 (by decide) ha (lb_f12 ha) ?_
      refine mg_run 1 rfl ?_
      refine mg_get rfl rfl h4.1.1 rfl ?_
      refine mg_callV [.ref 26] rfl rfl rfl c1 rfl rfl rfl rfl (c_Te_become hga W5 (sl_w ha).2 (fun M5 y1 y2 => ?_))
      have h5 := h4.slot ha y1 y2
      have W6 := W5.keep y2 (sl_w ha).2.1 (sl_w ha).2.2
      obtain ⟨fw6, w7, -⟩ := id W6
      refine mg_run 1 rfl ?_
      refine mg_get rfl rfl h5.1.1 rfl ?_
      refine mg_callV [] rfl rfl rfl w7 rfl rfl rfl rfl (c_Te_length W6 ?_)
      refine mg_ir rfl rfl rfl rfl ?_
      exact hQ am nm G e e1 M5 h5 (hon4.tr (y2.te.bn (by omega)))
    · exact mg_throw mm_xs3 rfl rfl rfl rfl rfl rfl rfl hl (hG am nm G e (q3.not h0) M4 h4 hon4)
  · have h1 := h.gra p1 p3
    have hj31 : j < 2 ^ 31 := by omega
    refine mg_put rfl rfl h1.1.1 rfl rfl ?_
    have h2 := h1.place (nI j)
    have hon2 : mm_on mm_bn M (M1.set 0 (.inr (7, [.ref 1, .ref 26, .ref 28, .ref 30, .ref 33, .ref 36, .ref 39, .ref 47, .int (nI j)]))) := (p3.bn (by decide)).tr ((on_0 _).bn (by decide))
    have hT3 := h2.2.2.2.1
    obtain ⟨f3, t31, -⟩ := id hT3
    refine mg_run 1 rfl ?_
    refine mg_get rfl rfl h2.1.1 rfl ?_
    refine mg_run 1 rfl ?_
    refine mg_icmp rfl (fun _ => ?_) (fun h9 => absurd (nI_m1 hj31) h9)
    refine mg_run 1 rfl ?_
    refine mg_get rfl rfl h2.1.1 rfl ?_
    refine mg_callV [] rfl rfl rfl t31 rfl rfl rfl rfl (c_Ta_clear hT3 (fun M4 r1 r2 => ?_))
    have h4 := h2.tape r1 r2.te
    refine mg_run 1 rfl ?_
    refine mg_get rfl rfl h4.1.1 rfl ?_
    refine mg_run 1 rfl ?_
    refine mg_icmp rfl (fun h9 => absurd h9 (nI_m1 hj31)) (fun _ => ?_)
    exact mg_throw mm_xs2 rfl rfl rfl rfl rfl rfl rfl hl (hN am j e hj M4 h4 (hon2.tr (r2.te.bn (by decide))))
theorem c_LB_readX (hl : l.stackTraces = false) (h : lb_is M sl tp pl o) {x : Int32} (hx : no_slot x) (hQ : Q (.inr 0) M) : mm_Ct l sc Y_LB_read M [.ref 0, .int x] Q := by
  refine mm_by k_LB_read w_LB_read rfl rfl ?_
  refine mg_run 2 rfl ?_
  exact mg_callV [.int x] rfl rfl rfl h.1.1 rfl rfl rfl rfl (c_LB_requireSlotX hl hx hQ)
end
