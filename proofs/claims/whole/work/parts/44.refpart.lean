/-! The reference: parts of a row. -/
def xi (c : Nat) : Int := if c = 64 then -1 else if c = 92 then -2 else if 1000 ≤ c then c - 1000 else if c = 83 then 20001 else if c = 75 then 20002 else if c = 73 then 20003 else if c < 3 then 9999 + c else 10000 + c
theorem xc_toInt {c : Nat} (h : c < 10000) : (xc c).toInt = xi c := by
  unfold xc xi
  split
  · decide
  · split
    · decide
    · split
      · rw [nI_toInt (by omega)]; omega
      · split
        · decide
        · split
          · decide
          · split
            · decide
            · split
              · rw [nI_toInt (by omega)]; omega
              · rw [nI_toInt (by omega)]; omega
theorem xi_inj {a b : Nat} (ha : a < 10000) (hb : b < 10000) (h : xi a = xi b) : a = b := by
  unfold xi at h
  repeat' split at h
  all_goals omega
theorem xc_inj {a b : Nat} (ha : a < 10000) (hb : b < 10000) : xc a = xc b ↔ a = b := by
  refine ⟨fun h => xi_inj ha hb ?_, fun h => by rw [h]⟩
  rw [← xc_toInt ha, ← xc_toInt hb, h]
theorem xc_64 {c : Nat} (h : c < 10000) : xc c = -1 ↔ c = 64 := xc_inj (b := 64) h (by decide)
theorem xc_92 {c : Nat} (h : c < 10000) : xc c = -2 ↔ c = 92 := xc_inj (b := 92) h (by decide)
theorem xc_73 {c : Nat} (h : c < 10000) : xc c = nI 20003 ↔ c = 73 := xc_inj (b := 73) h (by decide)
theorem xc_75 {c : Nat} (h : c < 10000) : xc c = nI 20002 ↔ c = 75 := xc_inj (b := 75) h (by decide)
theorem xc_83 {c : Nat} (h : c < 10000) : xc c = nI 20001 ↔ c = 83 := xc_inj (b := 83) h (by decide)
/-- how many parts are still wanted behind a row, o wanted before it -/
def te_nd : List Nat → Nat → Nat
  | [], o => o
  | _ :: _, 0 => 0
  | c :: l, o + 1 => te_nd l (if c = 64 then o + 2 else if c = 92 then o + 1 else o)
theorem te_nd0 (l : List Nat) : te_nd l 0 = 0 := by cases l <;> rfl
theorem te_nd_le : ∀ (l : List Nat) (o : Nat), te_nd l o = 0 → o ≤ l.length := by
  intro l
  induction l with
  | nil => intro o h; exact Nat.le_of_eq h
  | cons c l ih =>
    intro o h
    cases o with
    | zero => exact Nat.zero_le _
    | succ o =>
      rw [te_nd] at h
      have h2 := ih _ h
      rw [List.length_cons]
      split at h2
      · omega
      · split at h2 <;> omega
theorem te_nd_add : ∀ (l : List Nat) (p q : Nat), te_nd l (p + q) = 0 → te_nd l p = 0 ∧ te_nd (l.drop (te_sc l p)) q = 0 := by
  intro l
  induction l with
  | nil =>
    intro p q h
    have h2 : p + q = 0 := h
    have hp : p = 0 := by omega
    have hq : q = 0 := by omega
    subst hp
    subst hq
    exact ⟨rfl, rfl⟩
  | cons c l ih =>
    intro p q h
    cases p with
    | zero =>
      rw [te_sc0, Nat.zero_add] at *
      exact ⟨te_nd0 _, h⟩
    | succ p =>
      rw [show p + 1 + q = (p + q) + 1 by omega, te_nd] at h
      have e : (if c = 64 then p + q + 2 else if c = 92 then p + q + 1 else p + q) = (if c = 64 then p + 2 else if c = 92 then p + 1 else p) + q := by
        split
        · omega
        · split <;> omega
      rw [e] at h
      obtain ⟨h1, h2⟩ := ih _ _ h
      rw [te_nd, te_sc]
      exact ⟨h1, by rw [List.drop_succ_cons]; exact h2⟩
/-- at each place of a row a whole part begins -/
def cl (r : List Nat) : Prop := ∀ k, k < r.length → te_nd (r.drop k) 1 = 0
section
variable {l : Launch} {sc : Nat × (Nat → Int32)} {M0 M : mm_M} {Q : mm_O → mm_M → Prop} {x : Nat → Int32} {A : Nat → Nat → Int32} {r out : List Nat} {sl : Nat → List Nat}
theorem cl_app {k : Nat} (h : cl r) (hk : k < r.length) (e : r.getD k 0 = 64) : te_nd (r.drop (k + 1)) 2 = 0 := by
  have h1 := h k hk
  rw [te_drop hk, te_nd, if_pos e] at h1
  exact h1
theorem cl_len {k o : Nat} (h : te_nd (r.drop k) o = 0) : o ≤ r.length - k := by
  have := te_nd_le _ _ h
  rw [List.length_drop] at this
  exact this
theorem cl_app2 {k : Nat} (h : cl r) (hk : k < r.length) (e : r.getD k 0 = 64) : k + 2 < r.length ∧ te_en r (k + 1) < r.length := by
  have h1 := cl_app h hk e
  have h2 := cl_len h1
  obtain ⟨h3, h4⟩ := te_nd_add _ 1 1 h1
  rw [List.drop_drop] at h4
  have h5 := cl_len h4
  unfold te_en
  omega
theorem cl_abs {k : Nat} (h : cl r) (hk : k < r.length) (e : r.getD k 0 = 92) : k + 1 < r.length := by
  have h1 := h k hk
  rw [te_drop hk, te_nd, if_neg (by omega), if_pos e] at h1
  have h2 := cl_len h1
  omega
theorem cl_app3 {k : Nat} (h : cl r) (hk : k < r.length) (e : r.getD k 0 = 64) (e2 : r.getD (k + 1) 0 = 64) : k + 4 < r.length := by
  have h1 := cl_app h hk e
  have h2 := cl_len h1
  rw [te_drop (show k + 1 < r.length by omega), te_nd, if_pos e2] at h1
  have h3 := cl_len h1
  omega
def rx (h : Nat) : Nat := if h = 92 then 1 else if h = 73 then 2 else if h = 75 then 3 else if h = 83 then 4 else 0
theorem c_Mo_redex (h : mo_is M0 M x A) (hR : ro_is x A r) (hv : ∀ i, r.getD i 0 < 10000) (hcl : cl r) {k : Nat} (hk : k < r.length) (hQ : Q (.inl (some (.int (nI (rx (te_rh r k)))))) M) : mm_Ct l sc Y_Mo_redex M [.ref 54, .int (nI k)] Q := by
  obtain ⟨r1, r2, r3⟩ := hR
  refine mm_by k_Mo_redex w_Mo_redex rfl rfl ?_
  refine mg_run 1 rfl ?_
  refine mg_get rfl rfl h.2.1 rfl ?_
  refine mg_run 1 rfl ?_
  refine mr_ild 3 rfl h (by decide) (show k < 2001 by omega) ?_
  rw [r3 k hk]
  refine mg_run 1 rfl ?_
  refine mg_icmp rfl (fun e => ?_) (fun e => ?_)
  · have c1 := (xc_64 (hv k)).mp e
    have hk2 := (cl_app2 hcl hk c1).1
    refine mg_run 1 rfl ?_
    refine mg_get rfl rfl h.2.1 rfl ?_
    refine mg_run 2 rfl ?_
    refine mg_addN rfl ?_
    refine mr_ild 3 rfl h (by decide) (show k + 1 < 2001 by omega) ?_
    rw [r3 (k + 1) (by omega)]
    refine mg_run 1 rfl ?_
    refine mg_icmp rfl (fun e => ?_) (fun e => ?_)
    · have c2 : ¬ r.getD (k + 1) 0 = 92 := fun h9 => e ((xc_92 (hv _)).mpr h9)
      refine mg_run 1 rfl ?_
      refine mg_get rfl rfl h.2.1 rfl ?_
      refine mg_run 2 rfl ?_
      refine mg_addN rfl ?_
      refine mr_ild 3 rfl h (by decide) (show k + 1 < 2001 by omega) ?_
      rw [r3 (k + 1) (by omega)]
      refine mg_run 1 rfl ?_
      refine mg_icmp rfl (fun e => ?_) (fun e => ?_)
      · have c3 : ¬ r.getD (k + 1) 0 = 73 := fun h9 => e ((xc_73 (hv _)).mpr h9)
        refine mg_run 1 rfl ?_
        refine mg_get rfl rfl h.2.1 rfl ?_
        refine mg_run 2 rfl ?_
        refine mg_addN rfl ?_
        refine mr_ild 3 rfl h (by decide) (show k + 1 < 2001 by omega) ?_
        rw [r3 (k + 1) (by omega)]
        refine mg_run 1 rfl ?_
        refine mg_icmp rfl (fun e => ?_) (fun e => ?_)
        · have c4 := (xc_64 (hv (k + 1))).mp e
          have hk4 := cl_app3 hcl hk c1 c4
          refine mg_run 1 rfl ?_
          refine mg_get rfl rfl h.2.1 rfl ?_
          refine mg_run 2 rfl ?_
          refine mg_addN rfl ?_
          refine mr_ild 3 rfl h (by decide) (show k + 2 < 2001 by omega) ?_
          rw [r3 (k + 2) (by omega)]
          refine mg_run 1 rfl ?_
          refine mg_icmp rfl (fun e => ?_) (fun e => ?_)
          · have c5 : ¬ r.getD (k + 2) 0 = 75 := fun h9 => e ((xc_75 (hv _)).mpr h9)
            refine mg_run 1 rfl ?_
            refine mg_get rfl rfl h.2.1 rfl ?_
            refine mg_run 2 rfl ?_
            refine mg_addN rfl ?_
            refine mr_ild 3 rfl h (by decide) (show k + 2 < 2001 by omega) ?_
            rw [r3 (k + 2) (by omega)]
            refine mg_run 1 rfl ?_
            refine mg_icmp rfl (fun e => ?_) (fun e => ?_)
            · have c6 : ¬ r.getD (k + 2) 0 = 64 := fun h9 => e ((xc_64 (hv _)).mpr h9)
              refine mg_run 1 rfl ?_
              refine mg_ir rfl rfl rfl rfl ?_
              rw [te_rh, if_pos c1, if_neg c2, if_neg c3, if_pos c4, if_neg c5, if_neg c6] at hQ
              exact hQ
            · have c6 : r.getD (k + 2) 0 = 64 := (xc_64 (hv _)).mp (Decidable.not_not.mp e)
              refine mg_run 1 rfl ?_
              refine mg_get rfl rfl h.2.1 rfl ?_
              refine mg_run 2 rfl ?_
              refine mg_addN rfl ?_
              refine mr_ild 3 rfl h (by decide) (show k + 3 < 2001 by omega) ?_
              rw [r3 (k + 3) (by omega)]
              refine mg_run 1 rfl ?_
              refine mg_icmp rfl (fun e => ?_) (fun e => ?_)
              · have c7 : ¬ r.getD (k + 3) 0 = 83 := fun h9 => e ((xc_83 (hv _)).mpr h9)
                refine mg_run 1 rfl ?_
                refine mg_ir rfl rfl rfl rfl ?_
                rw [te_rh, if_pos c1, if_neg c2, if_neg c3, if_pos c4, if_neg c5, if_pos c6, if_neg c7] at hQ
                exact hQ
              · have c7 : r.getD (k + 3) 0 = 83 := (xc_83 (hv _)).mp (Decidable.not_not.mp e)
                refine mg_run 2 rfl ?_
                refine mg_ir rfl rfl rfl rfl ?_
                rw [te_rh, if_pos c1, if_neg c2, if_neg c3, if_pos c4, if_neg c5, if_pos c6, if_pos c7] at hQ
                exact hQ
          · have c5 : r.getD (k + 2) 0 = 75 := (xc_75 (hv _)).mp (Decidable.not_not.mp e)
            refine mg_run 1 rfl ?_
            refine mg_ir rfl rfl rfl rfl ?_
            rw [te_rh, if_pos c1, if_neg c2, if_neg c3, if_pos c4, if_pos c5] at hQ
            exact hQ
        · have c4 : ¬ r.getD (k + 1) 0 = 64 := fun h9 => e ((xc_64 (hv _)).mpr h9)
          refine mg_run 1 rfl ?_
          refine mg_ir rfl rfl rfl rfl ?_
          rw [te_rh, if_pos c1, if_neg c2, if_neg c3, if_neg c4] at hQ
          exact hQ
      · have c3 : r.getD (k + 1) 0 = 73 := (xc_73 (hv _)).mp (Decidable.not_not.mp e)
        refine mg_run 1 rfl ?_
        refine mg_ir rfl rfl rfl rfl ?_
        rw [te_rh, if_pos c1, if_neg c2, if_pos c3] at hQ
        exact hQ
    · have c2 : r.getD (k + 1) 0 = 92 := (xc_92 (hv _)).mp (Decidable.not_not.mp e)
      refine mg_run 1 rfl ?_
      refine mg_ir rfl rfl rfl rfl ?_
      rw [te_rh, if_pos c1, if_pos c2] at hQ
      exact hQ
  · have c1 : ¬ r.getD k 0 = 64 := fun h9 => e ((xc_64 (hv _)).mpr h9)
    refine mg_run 1 rfl ?_
    refine mg_ir rfl rfl rfl rfl ?_
    rw [te_rh, if_neg c1] at hQ
    exact hQ
theorem rx_0 (r : List Nat) (k : Nat) : rx (te_rh r k) = 0 ↔ te_rh r k = 0 := by
  unfold te_rh
  repeat' split
  all_goals decide
theorem rx_lt (h : Nat) : rx h < 5 := by
  unfold rx
  repeat' split
  all_goals decide
theorem lp_Mo_find (h : mo_is M0 M x A) (hR : ro_is x A r) (hv : ∀ i, r.getD i 0 < 10000) (hcl : cl r) : ∀ m i, r.length - i = m → i ≤ r.length → Q (.inl (some (.int (te_fv (te_fr r m i))))) M → mm_Go l sc Y_Mo_find 0 0 M [some (.ref 54), some (.int (nI i))] [] 2 Q := by
  have e8 := hR.1
  have hl := hR.2.1
  intro m
  induction m with
  | zero =>
    intro i hm hi hQ
    refine mg_run 2 rfl ?_
    refine mg_get rfl rfl h.2.1 rfl ?_
    rw [e8]
    refine mg_ge rfl (by omega) (by omega) (fun _ => ?_) (fun h => absurd h (by omega))
    refine mg_run 1 rfl ?_
    exact mg_ir rfl rfl rfl rfl hQ
  | succ m ih =>
    intro i hm hi hQ
    refine mg_run 2 rfl ?_
    refine mg_get rfl rfl h.2.1 rfl ?_
    rw [e8]
    refine mg_ge rfl (by omega) (by omega) (fun h => absurd h (by omega)) (fun hlt => ?_)
    refine mg_run 2 rfl ?_
    refine mg_callV [.int (nI i)] rfl rfl rfl h.2.1 rfl rfl rfl rfl (c_Mo_redex h hR hv hcl hlt ?_)
    have h5 := rx_lt (te_rh r i)
    refine mg_zle rfl (by omega) (fun e => ?_) (fun e => ?_)
    · refine mg_incN rfl rfl rfl ?_
      refine mg_run 1 rfl ?_
      rw [te_fr, if_pos ((rx_0 r i).mp e)] at hQ
      exact ih (i + 1) (by omega) (by omega) hQ
    · refine mg_run 1 rfl ?_
      rw [te_fr, if_neg (fun h9 => by rw [(rx_0 r i).mpr h9] at e; omega)] at hQ
      exact mg_ir rfl rfl rfl rfl hQ
theorem c_Mo_find (h : mo_is M0 M x A) (hR : ro_is x A r) (hv : ∀ i, r.getD i 0 < 10000) (hcl : cl r) (hQ : Q (.inl (some (.int (te_fv (te_fr r r.length 0))))) M) : mm_Ct l sc Y_Mo_find M [.ref 54] Q := by
  refine mm_by k_Mo_find w_Mo_find rfl rfl ?_
  refine mg_run 2 rfl ?_
  exact lp_Mo_find h hR hv hcl _ 0 rfl (Nat.zero_le _) hQ
theorem mg_addM {Y : mm_Y} {k2 n a : Nat} {L : mm_L} {S : List Value} {pc nx aux : Nat} {v : Int32} (hq : mm_at (mm_tab Y) pc = some (.iadd, nx, aux, v)) (kk : mm_Go l sc Y k2 n M L (.int (nI a) :: S) nx Q) : mm_Go l sc Y k2 n M L (.int (-1) :: .int (nI (a + 1)) :: S) pc Q := by
  refine mg_x (M' := M) (L' := L) (S' := .int (nI (a + 1) + -1) :: S) hq rfl ?_
  rw [pk_m1]
  exact kk
theorem lp_Mo_behind (h : mo_is M0 M x A) (hR : ro_is x A r) (hv : ∀ i, r.getD i 0 < 10000) {x1 : Int32} : ∀ m i o, te_nd (r.drop i) o = 0 → r.length - i = m → i ≤ r.length → Q (.inl (some (.int (nI (i + te_sc (r.drop i) o))))) M → mm_Go l sc Y_Mo_behind 0 0 M [some (.ref 54), some (.int x1), some (.int (nI o)), some (.int (nI i))] [] 4 Q := by
  obtain ⟨r1, r2, r3⟩ := hR
  intro m
  induction m with
  | zero =>
    intro i o hn hm hi hQ
    have h1 := cl_len hn
    have e : o = 0 := by omega
    subst e
    refine mg_run 1 rfl ?_
    refine mg_zle rfl (by decide) (fun _ => ?_) (fun h => absurd h (by decide))
    refine mg_run 1 rfl ?_
    rw [te_sc0] at hQ
    exact mg_ir rfl rfl rfl rfl hQ
  | succ m ih =>
    intro i o hn hm hi hQ
    have h1 := cl_len hn
    have hlt : i < r.length := by omega
    refine mg_run 1 rfl ?_
    refine mg_zle rfl (by omega) (fun e => ?_) (fun e => ?_)
    · subst e
      refine mg_run 1 rfl ?_
      rw [te_sc0] at hQ
      exact mg_ir rfl rfl rfl rfl hQ
    · obtain ⟨o, rfl⟩ : ∃ o', o = o' + 1 := ⟨o - 1, by omega⟩
      rw [te_drop hlt, te_sc] at hQ
      rw [te_drop hlt, te_nd] at hn
      refine mg_run 2 rfl ?_
      refine mg_get rfl rfl h.2.1 rfl ?_
      refine mg_run 1 rfl ?_
      refine mr_ild 3 rfl h (by decide) (show i < 2001 by omega) ?_
      rw [r3 i hlt]
      refine mg_run 1 rfl ?_
      refine mg_icmp rfl (fun e1 => ?_) (fun e1 => ?_)
      · have c1 : ¬ r.getD i 0 = 64 := fun h9 => e1 ((xc_64 (hv _)).mpr h9)
        rw [if_neg c1] at hQ hn
        refine mg_run 1 rfl ?_
        refine mg_get rfl rfl h.2.1 rfl ?_
        refine mg_run 1 rfl ?_
        refine mr_ild 3 rfl h (by decide) (show i < 2001 by omega) ?_
        rw [r3 i hlt]
        refine mg_callS [.int (xc (r.getD i 0))] rfl rfl rfl rfl rfl rfl (c_Mo_isLeaf (fun _ e2 => ?_) (fun e2 => ?_))
        · have c2 : ¬ r.getD i 0 = 92 := fun h9 => e2 ((xc_92 (hv _)).mpr h9)
          rw [if_neg c2] at hQ hn
          refine mg_zeq rfl (by decide) (fun h => absurd h (by decide)) (fun _ => ?_)
          refine mg_run 2 rfl ?_
          refine mg_addM rfl ?_
          refine mg_run 1 rfl ?_
          refine mg_incN rfl rfl rfl ?_
          refine mg_run 1 rfl ?_
          refine ih (i + 1) o hn (by omega) (by omega) ?_
          rw [show i + 1 + te_sc (r.drop (i + 1)) o = i + (te_sc (r.drop (i + 1)) o + 1) by omega]
          exact hQ
        · have c2 : r.getD i 0 = 92 := by
            rcases e2 with e2 | e2
            · exact absurd e2 e1
            · exact (xc_92 (hv _)).mp e2
          rw [if_pos c2] at hQ hn
          refine mg_zeq rfl (by decide) (fun _ => ?_) (fun h => absurd h (by decide))
          refine mg_run 1 rfl ?_
          refine mg_addN rfl ?_
          refine mg_run 1 rfl ?_
          refine mg_incN rfl rfl rfl ?_
          refine mg_run 1 rfl ?_
          refine ih (i + 1) (o + 1) hn (by omega) (by omega) ?_
          rw [show i + 1 + te_sc (r.drop (i + 1)) (o + 1) = i + (te_sc (r.drop (i + 1)) (o + 1) + 1) by omega]
          exact hQ
      · have c1 : r.getD i 0 = 64 := (xc_64 (hv _)).mp (Decidable.not_not.mp e1)
        rw [if_pos c1] at hQ hn
        refine mg_run 2 rfl ?_
        refine mg_addN rfl ?_
        refine mg_run 1 rfl ?_
        refine mg_incN rfl rfl rfl ?_
        refine mg_run 1 rfl ?_
        refine ih (i + 1) (o + 2) hn (by omega) (by omega) ?_
        rw [show i + 1 + te_sc (r.drop (i + 1)) (o + 2) = i + (te_sc (r.drop (i + 1)) (o + 2) + 1) by omega]
        exact hQ
theorem c_Mo_behind (h : mo_is M0 M x A) (hR : ro_is x A r) (hv : ∀ i, r.getD i 0 < 10000) {i : Nat} (hn : te_nd (r.drop i) 1 = 0) (hQ : Q (.inl (some (.int (nI (te_en r i))))) M) : mm_Ct l sc Y_Mo_behind M [.ref 54, .int (nI i)] Q := by
  have h1 := cl_len hn
  refine mm_by k_Mo_behind w_Mo_behind rfl rfl ?_
  refine mg_run 4 rfl ?_
  exact lp_Mo_behind h hR hv _ i 1 hn rfl (by omega) hQ
theorem lp_Mo_putPart (hv : ∀ i, r.getD i 0 < 10000) {en : Nat} {x1 : Int32} (hen : en ≤ r.length) : ∀ m i (M : mm_M) (x : Nat → Int32) (A : Nat → Nat → Int32) (out : List Nat), mo_is M0 M x A → ro_is x A r → nx_is x A out → en - i = m → i ≤ en →
    (∀ M' x' A', mo_is M0 M' x' A' → fx [10, 11] x x' → fa [4] A A' → nx_is x' A' (out ++ te_pt r i en) → Q (.inl none) M') →
    mm_Go l sc Y_Mo_putPart 0 0 M [some (.ref 54), some (.int x1), some (.int (nI en)), some (.int (nI i))] [] 8 Q := by
  intro m
  induction m with
  | zero =>
    intro i M x A out h hR hn hm hi hQ
    have h4 := hR.2.1
    refine mg_run 2 rfl ?_
    refine mg_ge rfl (by omega) (by omega) (fun _ => ?_) (fun h => absurd h (by omega))
    refine mg_vr rfl rfl rfl rfl ?_
    refine hQ M x A h (fx.rf _ _) (fa.rf _ _) ?_
    rw [te_pt, hm, List.take_zero, List.append_nil]
    exact hn
  | succ m ih =>
    intro i M x A out h hR hn hm hi hQ
    have h4 := hR.2.1
    refine mg_run 2 rfl ?_
    refine mg_ge rfl (by omega) (by omega) (fun h => absurd h (by omega)) (fun hlt => ?_)
    refine mg_run 2 rfl ?_
    refine mg_get rfl rfl h.2.1 rfl ?_
    refine mg_run 1 rfl ?_
    refine mr_ild 3 rfl h (by decide) (show i < 2001 by omega) ?_
    rw [hR.2.2 i (by omega)]
    refine mg_callV [.int (xc (r.getD i 0))] rfl rfl rfl h.2.1 rfl rfl rfl rfl (c_Mo_put h hn (fun M1 x1 A1 p1 p2 p3 p4 => ?_))
    refine mg_incN rfl rfl rfl ?_
    refine mg_run 1 rfl ?_
    refine ih (i + 1) M1 x1 A1 _ p1 (hR.fr p2 p3 (by decide) (by decide)) p4 (by omega) (by omega) (fun M' x' A' q1 q2 q3 q4 => hQ M' x' A' q1 (p2.tr q2) (p3.tr q3) ?_)
    have e : te_pt r i en = r.getD i 0 :: te_pt r (i + 1) en := by
      unfold te_pt
      rw [te_drop (show i < r.length by omega), show en - i = (en - (i + 1)) + 1 by omega, List.take_succ_cons]
    rw [e]
    rw [List.append_assoc] at q4
    exact q4
theorem c_Mo_putPart (hv : ∀ i, r.getD i 0 < 10000) (h : mo_is M0 M x A) (hR : ro_is x A r) (hx : nx_is x A out) {i : Nat} (hn : te_nd (r.drop i) 1 = 0)
    (hQ : ∀ M' x' A', mo_is M0 M' x' A' → fx [10, 11] x x' → fa [4] A A' → nx_is x' A' (out ++ te_pt r i (te_en r i)) → Q (.inl none) M') : mm_Ct l sc Y_Mo_putPart M [.ref 54, .int (nI i)] Q := by
  have h1 := cl_len hn
  refine mm_by k_Mo_putPart w_Mo_putPart rfl rfl ?_
  refine mg_run 2 rfl ?_
  refine mg_callV [.int (nI i)] rfl rfl rfl h.2.1 rfl rfl rfl rfl (c_Mo_behind h hR hv hn ?_)
  refine mg_run 3 rfl ?_
  exact lp_Mo_putPart hv (te_en_le (by omega)) _ i M x A out h hR hx rfl (te_en_ge r i) hQ
end
