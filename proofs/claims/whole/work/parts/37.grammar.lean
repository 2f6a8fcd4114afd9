/-! The grammar: where a text is wrong, and how many atoms each of its terms has. -/
def nup (am : Nat → Nat) (k v : Nat) : Nat → Nat := fun j => if j = k then v else am j
theorem nup_upd {f : Nat → Int32} {am : Nat → Nat} (h : ∀ j, j < 401 → f j = nI (am j)) (k v : Nat) : ∀ j, j < 401 → upd f k (nI v) j = nI (nup am k v j) := by
  intro j hj
  unfold nup
  by_cases e : j = k
  · subst e
    rw [pk_us, if_pos rfl]
  · rw [pk_un e, if_neg e]
    exact h j hj
def gr_is (M : mm_M) (st : Nat) (ar : List Nat) (be : Nat) (am : Nat → Nat) : Prop := ∃ f w : Nat → Int32, gra_is M (nI ar.length) (nI be) (nI st) f w ∧ (∀ j, j < 401 → f j = nI (am j)) ∧ sk_in w ar ∧ ar.length ≤ 20 ∧ be < 401 ∧ (∀ b ∈ ar, b < 401)
abbrev gr_G : Type := Nat × List Nat × Nat × (Nat → Nat)
def gr_iG (M : mm_M) (G : gr_G) : Prop := gr_is M G.1 G.2.1 G.2.2.1 G.2.2.2
theorem gr_is.gra {M : mm_M} {st be : Nat} {ar : List Nat} {am : Nat → Nat} (h : gr_is M st ar be am) : lb_gra M := by
  obtain ⟨f, w, g, -⟩ := h
  exact ⟨_, _, _, _, _, g⟩
theorem gr_is.keep {M M' : mm_M} {lo hi : Nat} {st be : Nat} {ar : List Nat} {am : Nat → Nat} (h : gr_is M st ar be am) (hon : mm_on (mm_rg lo hi) M M') (hd : 32 < lo ∨ hi < 30) : gr_is M' st ar be am := by
  obtain ⟨f, w, ⟨h1, h2, h3⟩, h4⟩ := h
  exact ⟨f, w, ⟨(hon 30 (mm_rg_n (by omega))).trans h1, (hon 31 (mm_rg_n (by omega))).trans h2, (hon 32 (mm_rg_n (by omega))).trans h3⟩, h4⟩
def gr_inc (am : Nat → Nat) (be : Nat) : Nat → Nat := nup am be (am be + 1)
def gr_term (c i : Nat) (ar : List Nat) (be : Nat) (am : Nat → Nat) : Option gr_G :=
  if c = 41 then (match ar with
    | [] => none
    | b :: ar' => if am be = 0 then none else some (0, ar', b, am))
  else if c = 40 then (if ar.length < 20 then some (0, be :: ar, i + 1, nup (gr_inc am be) (i + 1) 0) else none)
  else if c = 92 then some (1, ar, be, gr_inc am be)
  else if c = 35 then some (3, ar, be, gr_inc am be)
  else if 97 ≤ c ∧ c ≤ 122 then some (0, ar, be, gr_inc am be)
  else if c = 83 ∨ c = 75 ∨ c = 73 then some (0, ar, be, gr_inc am be) else none
def gr_names (c i st : Nat) (ar : List Nat) (be : Nat) (am : Nat → Nat) : Option gr_G :=
  if 97 ≤ c ∧ c ≤ 122 then some (2, ar, be, am) else if st = 2 ∧ c = 46 then some (0, ar, i + 1, nup am (i + 1) 0) else none
def gr_rest (c i st : Nat) (ar : List Nat) (be : Nat) (am : Nat → Nat) : Option gr_G :=
  if c = 32 then some (st, ar, be, am) else if st = 0 then gr_term c i ar be am else gr_names c i st ar be am
def gr_step (c i st : Nat) (ar : List Nat) (be : Nat) (am : Nat → Nat) : Option gr_G :=
  if st = 3 then (if 48 ≤ c ∧ c ≤ 57 then some (4, ar, be, am) else none)
  else if st = 4 then (if 48 ≤ c ∧ c ≤ 57 then some (0, ar, be, am) else gr_rest c i 0 ar be am)
  else gr_rest c i st ar be am
theorem let_nI {c : Nat} (hc : c < 2 ^ 31) : is_let (nI c) ↔ (97 ≤ c ∧ c ≤ 122) := by
  unfold is_let
  rw [nI_toInt hc]
  omega
section
variable {l : Launch} {sc : Nat × (Nat → Int32)} {M : mm_M} {Q : mm_O → mm_M → Prop} {st be c i : Nat} {ar : List Nat} {am : Nat → Nat}
theorem on_30 (e : va_E) : mm_on (mm_rg 30 32) M (M.set 30 e) := mm_on.set M _ (by unfold mm_rg; omega)
theorem on_31 (e : va_E) : mm_on (mm_rg 30 32) M (M.set 31 e) := mm_on.set M _ (by unfold mm_rg; omega)
theorem on_32 (e : va_E) : mm_on (mm_rg 30 32) M (M.set 32 e) := mm_on.set M _ (by unfold mm_rg; omega)
theorem c_Gr_beginTerm {op bx sx : Int32} {f w : Nat → Int32} (h : gra_is M op bx sx f w) {p : Nat} (hp : p < 401) (hQ : ∀ M', gra_is M' op (nI p) (nI 0) (upd f p (nI 0)) w → mm_on (mm_rg 30 32) M M' → Q (.inl none) M') : mm_Ct l sc Y_Gr_beginTerm M [.ref 30, .int (nI p)] Q := by
  obtain ⟨g1, g2, g3⟩ := h
  refine mm_by k_Gr_beginTerm w_Gr_beginTerm rfl rfl ?_
  refine mg_run 2 rfl ?_
  refine mg_put rfl rfl g1 rfl rfl ?_
  have a1 := mm_at_set (.inr (3, [.ref 31, .ref 32, .int op, .int bx, .int (nI 0)])) g1
  have a2 : (M.set 30 (.inr (3, [.ref 31, .ref 32, .int op, .int bx, .int (nI 0)])))[31]? = _ := mm_at_ne (by decide) g2
  have a3 : (M.set 30 (.inr (3, [.ref 31, .ref 32, .int op, .int bx, .int (nI 0)])))[32]? = _ := mm_at_ne (by decide) g3
  refine mg_run 2 rfl ?_
  refine mg_put rfl rfl a1 rfl rfl ?_
  have b1 := mm_at_set (.inr (3, [.ref 31, .ref 32, .int op, .int (nI p), .int (nI 0)])) a1
  have b2 : ((M.set 30 (.inr (3, [.ref 31, .ref 32, .int op, .int bx, .int (nI 0)]))).set 30 (.inr (3, [.ref 31, .ref 32, .int op, .int (nI p), .int (nI 0)])))[31]? = _ := mm_at_ne (by decide) a2
  have b3 : ((M.set 30 (.inr (3, [.ref 31, .ref 32, .int op, .int bx, .int (nI 0)]))).set 30 (.inr (3, [.ref 31, .ref 32, .int op, .int (nI p), .int (nI 0)])))[32]? = _ := mm_at_ne (by decide) a3
  refine mg_run 1 rfl ?_
  refine mg_get rfl rfl b1 rfl ?_
  refine mg_run 1 rfl ?_
  refine mg_get rfl rfl b1 rfl ?_
  refine mg_run 1 rfl ?_
  refine mg_istN rfl b2 (by decide) hp ?_
  refine mg_vr rfl rfl rfl rfl ?_
  exact hQ _ ⟨mm_at_ne (by decide) b1, mm_at_set _ b2, mm_at_ne (by decide) b3⟩ (((on_30 _).tr (on_30 _)).tr (on_31 _))
theorem c_Gr_closes (h : gr_is M 0 ar be am) (hab : am be < 2 ^ 31) (hQ : ∀ b ar', ar = b :: ar' → ¬ am be = 0 → ∀ M', gr_is M' 0 ar' b am → mm_on (mm_rg 30 32) M M' → Q (.inl (some (.int (nI 1)))) M') (hN : (ar = [] ∨ am be = 0) → Q (.inl (some (.int (nI 0)))) M) : mm_Ct l sc Y_Gr_closes M [.ref 30] Q := by
  obtain ⟨f, w, ⟨g1, g2, g3⟩, hf, hw, hl, hbe, har⟩ := h
  refine mm_by k_Gr_closes w_Gr_closes rfl rfl ?_
  refine mg_run 1 rfl ?_
  refine mg_get rfl rfl g1 rfl ?_
  refine mg_zeq rfl (by omega) (fun h => ?_) (fun h => ?_)
  · refine mg_run 1 rfl ?_
    exact mg_zr rfl rfl (Or.inl rfl) rfl rfl (hN (Or.inl (List.length_eq_zero_iff.mp h)))
  · refine mg_run 1 rfl ?_
    refine mg_get rfl rfl g1 rfl ?_
    refine mg_run 1 rfl ?_
    refine mg_get rfl rfl g1 rfl ?_
    refine mg_ildN rfl g2 (by decide) hbe ?_
    rw [hf be hbe]
    refine mg_zne rfl hab (fun h2 => ?_) (fun h2 => ?_)
    · cases ar with
      | nil => exact absurd h (by decide)
      | cons b ar' =>
        refine mg_run 2 rfl ?_
        refine mg_get rfl rfl g1 rfl ?_
        refine mg_run 1 rfl ?_
        refine mg_subN rfl (by exact h) ?_
        refine mg_put rfl rfl g1 rfl rfl ?_
        have a1 := mm_at_set (.inr (3, [.ref 31, .ref 32, .int (nI ar'.length), .int (nI be), .int (nI 0)])) g1
        have a2 : (M.set 30 (.inr (3, [.ref 31, .ref 32, .int (nI ar'.length), .int (nI be), .int (nI 0)])))[31]? = _ := mm_at_ne (by decide) g2
        have a3 : (M.set 30 (.inr (3, [.ref 31, .ref 32, .int (nI ar'.length), .int (nI be), .int (nI 0)])))[32]? = _ := mm_at_ne (by decide) g3
        have hl2 : ar'.length + 1 ≤ 20 := hl
        refine mg_run 2 rfl ?_
        refine mg_get rfl rfl a1 rfl ?_
        refine mg_run 1 rfl ?_
        refine mg_get rfl rfl a1 rfl ?_
        refine mg_ildN rfl a3 (by decide) (by omega) ?_
        rw [sk_top hw]
        refine mg_put rfl rfl a1 rfl rfl ?_
        refine mg_run 1 rfl ?_
        refine mg_zr rfl rfl (Or.inr rfl) rfl rfl ?_
        exact hQ b ar' rfl (by omega) _ ⟨f, w, ⟨mm_at_set _ a1, mm_at_ne (by decide) a2, mm_at_ne (by decide) a3⟩, hf, sk_pop hw, by omega, har b List.mem_cons_self, fun x hx => har x (List.mem_cons_of_mem _ hx)⟩ ((on_30 _).tr (on_30 _))
    · refine mg_run 1 rfl ?_
      exact mg_zr rfl rfl (Or.inl rfl) rfl rfl (hN (Or.inr h2))
theorem c_Gr_opens (h : gr_is M 0 ar be am) (hi : i < 400) (hQ : ar.length < 20 → ∀ M', gr_is M' 0 (be :: ar) (i + 1) (nup (gr_inc am be) (i + 1) 0) → mm_on (mm_rg 30 32) M M' → Q (.inl (some (.int (nI 1)))) M') (hN : ¬ ar.length < 20 → Q (.inl (some (.int (nI 0)))) M) : mm_Ct l sc Y_Gr_opens M [.ref 30, .int (nI i)] Q := by
  obtain ⟨f, w, ⟨g1, g2, g3⟩, hf, hw, hl, hbe, har⟩ := h
  refine mm_by k_Gr_opens w_Gr_opens rfl rfl ?_
  refine mg_run 1 rfl ?_
  refine mg_get rfl rfl g1 rfl ?_
  refine mg_run 1 rfl ?_
  refine mg_lt rfl (by omega) (by decide) (fun h => ?_) (fun h => ?_)
  · refine mg_run 1 rfl ?_
    refine mg_get rfl rfl g1 rfl ?_
    refine mg_run 1 rfl ?_
    refine mg_get rfl rfl g1 rfl ?_
    refine mg_run 1 rfl ?_
    refine mg_ildN rfl g2 (by decide) hbe ?_
    rw [hf be hbe]
    refine mg_run 1 rfl ?_
    refine mg_addN rfl ?_
    refine mg_istN rfl g2 (by decide) hbe ?_
    have a2 := mm_at_set (.inl (0, 401, .inl (upd f be (nI (am be + 1))))) g2
    have a1 : (M.set 31 (.inl (0, 401, .inl (upd f be (nI (am be + 1))))))[30]? = _ := mm_at_ne (by decide) g1
    have a3 : (M.set 31 (.inl (0, 401, .inl (upd f be (nI (am be + 1))))))[32]? = _ := mm_at_ne (by decide) g3
    refine mg_run 1 rfl ?_
    refine mg_get rfl rfl a1 rfl ?_
    refine mg_run 1 rfl ?_
    refine mg_get rfl rfl a1 rfl ?_
    refine mg_run 1 rfl ?_
    refine mg_get rfl rfl a1 rfl ?_
    refine mg_istN rfl a3 (by decide) h ?_
    have b3 := mm_at_set (.inl (0, 20, .inl (upd w ar.length (nI be)))) a3
    have b1 : ((M.set 31 (.inl (0, 401, .inl (upd f be (nI (am be + 1)))))).set 32 (.inl (0, 20, .inl (upd w ar.length (nI be)))))[30]? = _ := mm_at_ne (by decide) a1
    have b2 : ((M.set 31 (.inl (0, 401, .inl (upd f be (nI (am be + 1)))))).set 32 (.inl (0, 20, .inl (upd w ar.length (nI be)))))[31]? = _ := mm_at_ne (by decide) a2
    refine mg_run 2 rfl ?_
    refine mg_get rfl rfl b1 rfl ?_
    refine mg_run 1 rfl ?_
    refine mg_addN rfl ?_
    refine mg_put rfl rfl b1 rfl rfl ?_
    have c1 := mm_at_set (.inr (3, [.ref 31, .ref 32, .int (nI (ar.length + 1)), .int (nI be), .int (nI 0)])) b1
    refine mg_run 3 rfl ?_
    refine mg_addN rfl ?_
    refine mg_callV [.int (nI (i + 1))] rfl rfl rfl c1 rfl rfl rfl rfl (c_Gr_beginTerm ⟨c1, mm_at_ne (by decide) b2, mm_at_ne (by decide) b3⟩ (by omega) (fun M' q1 q2 => ?_))
    refine mg_run 1 rfl ?_
    refine mg_zr rfl rfl (Or.inr rfl) rfl rfl ?_
    refine hQ h M' ⟨_, _, q1, nup_upd (nup_upd hf _ _) _ _, sk_push hw, by show ar.length + 1 ≤ 20; omega, by omega, ?_⟩ ((((on_31 _).tr (on_32 _)).tr (on_30 _)).tr q2)
    intro x hx
    rcases List.mem_cons.mp hx with rfl | hx
    · exact hbe
    · exact har x hx
  · refine mg_run 1 rfl ?_
    exact mg_zr rfl rfl (Or.inl rfl) rfl rfl (hN (by omega))
theorem c_Gr_acceptsInNames (h : gr_is M st ar be am) (hi : i < 400) (hc : c < 256) (hst : st < 5) (hQ : ∀ G, gr_names c i st ar be am = some G → ∀ M', gr_iG M' G → mm_on (mm_rg 30 32) M M' → Q (.inl (some (.int (nI 1)))) M') (hN : gr_names c i st ar be am = none → Q (.inl (some (.int (nI 0)))) M) : mm_Ct l sc Y_Gr_acceptsInNames M [.ref 30, .int (nI c), .int (nI i)] Q := by
  obtain ⟨f, w, ⟨g1, g2, g3⟩, hf, hw, hl, hbe, har⟩ := h
  refine mm_by k_Gr_acceptsInNames w_Gr_acceptsInNames rfl rfl ?_
  refine mg_run 1 rfl ?_
  refine mg_callN [.int (nI c)] rfl rfl rfl rfl rfl (c_LB_isLetter (fun hL => ?_) (fun hL => ?_))
  · rw [let_nI (by omega)] at hL
    refine mg_zeq rfl (by decide) (fun h => absurd h (by decide)) (fun _ => ?_)
    refine mg_run 2 rfl ?_
    refine mg_put rfl rfl g1 rfl rfl ?_
    refine mg_run 1 rfl ?_
    refine mg_zr rfl rfl (Or.inr rfl) rfl rfl ?_
    exact hQ (2, ar, be, am) (if_pos hL) _ ⟨f, w, ⟨mm_at_set _ g1, mm_at_ne (by decide) g2, mm_at_ne (by decide) g3⟩, hf, hw, hl, hbe, har⟩ (on_30 _)
  · rw [let_nI (by omega)] at hL
    refine mg_zeq rfl (by decide) (fun _ => ?_) (fun h => absurd h (by decide))
    refine mg_run 1 rfl ?_
    refine mg_get rfl rfl g1 rfl ?_
    refine mg_run 1 rfl ?_
    refine mg_ne rfl (by omega) (by decide) (fun h => ?_) (fun h => ?_)
    · refine mg_run 1 rfl ?_
      refine mg_zr rfl rfl (Or.inl rfl) rfl rfl (hN ?_)
      unfold gr_names
      rw [if_neg hL, if_neg (fun h9 => h h9.1)]
    · refine mg_run 2 rfl ?_
      refine mg_ne rfl (by omega) (by decide) (fun h2 => ?_) (fun h2 => ?_)
      · refine mg_run 1 rfl ?_
        refine mg_zr rfl rfl (Or.inl rfl) rfl rfl (hN ?_)
        unfold gr_names
        rw [if_neg hL, if_neg (fun h9 => h2 h9.2)]
      · refine mg_run 3 rfl ?_
        refine mg_addN rfl ?_
        refine mg_callV [.int (nI (i + 1))] rfl rfl rfl g1 rfl rfl rfl rfl (c_Gr_beginTerm ⟨g1, g2, g3⟩ (by omega) (fun M' q1 q2 => ?_))
        refine mg_run 1 rfl ?_
        refine mg_zr rfl rfl (Or.inr rfl) rfl rfl ?_
        refine hQ (0, ar, i + 1, nup am (i + 1) 0) ?_ M' ⟨_, w, q1, nup_upd hf _ _, hw, hl, (by omega : i + 1 < 401), har⟩ q2
        unfold gr_names
        rw [if_neg hL, if_pos ⟨h, h2⟩]
/-- one atom more: the end of acceptsInTerm -/
theorem lp_Gr_atom (h : gr_is M st ar be am) {x1 x2 : Int32} (hQ : ∀ M', gr_is M' st ar be (gr_inc am be) → mm_on (mm_rg 30 32) M M' → Q (.inl (some (.int (nI 1)))) M') : mm_Go l sc Y_Gr_acceptsInTerm 0 0 M [some (.ref 30), some (.int x1), some (.int x2)] [] 67 Q := by
  obtain ⟨f, w, ⟨g1, g2, g3⟩, hf, hw, hl, hbe, har⟩ := h
  refine mg_run 1 rfl ?_
  refine mg_get rfl rfl g1 rfl ?_
  refine mg_run 1 rfl ?_
  refine mg_get rfl rfl g1 rfl ?_
  refine mg_run 1 rfl ?_
  refine mg_ildN rfl g2 (by decide) hbe ?_
  rw [hf be hbe]
  refine mg_run 1 rfl ?_
  refine mg_addN rfl ?_
  refine mg_istN rfl g2 (by decide) hbe ?_
  refine mg_run 1 rfl ?_
  refine mg_zr rfl rfl (Or.inr rfl) rfl rfl ?_
  exact hQ _ ⟨_, w, ⟨mm_at_ne (by decide) g1, mm_at_set _ g2, mm_at_ne (by decide) g3⟩, nup_upd hf _ _, hw, hl, hbe, har⟩ (on_31 _)
theorem gr_is.ste (h : gr_is M st ar be am) (st' : Nat) : gr_is (M.set 30 (.inr (3, [.ref 31, .ref 32, .int (nI ar.length), .int (nI be), .int (nI st')]))) st' ar be am := by
  obtain ⟨f, w, ⟨g1, g2, g3⟩, h4⟩ := h
  exact ⟨f, w, ⟨mm_at_set _ g1, mm_at_ne (by decide) g2, mm_at_ne (by decide) g3⟩, h4⟩
theorem c_Gr_acceptsInTerm (h : gr_is M 0 ar be am) (hi : i < 400) (hc : c < 256) (hab : am be < 2 ^ 31) (hQ : ∀ G, gr_term c i ar be am = some G → ∀ M', gr_iG M' G → mm_on (mm_rg 30 32) M M' → Q (.inl (some (.int (nI 1)))) M') (hN : gr_term c i ar be am = none → Q (.inl (some (.int (nI 0)))) M) : mm_Ct l sc Y_Gr_acceptsInTerm M [.ref 30, .int (nI c), .int (nI i)] Q := by
  obtain ⟨f, w, ⟨g1, g2, g3⟩, -⟩ := id h
  refine mm_by k_Gr_acceptsInTerm w_Gr_acceptsInTerm rfl rfl ?_
  refine mg_run 2 rfl ?_
  refine mg_ne rfl (by omega) (by decide) (fun h1 => ?_) (fun h1 => ?_)
  · refine mg_run 2 rfl ?_
    refine mg_ne rfl (by omega) (by decide) (fun h2 => ?_) (fun h2 => ?_)
    · refine mg_run 2 rfl ?_
      refine mg_ne rfl (by omega) (by decide) (fun h3 => ?_) (fun h3 => ?_)
      · refine mg_run 2 rfl ?_
        refine mg_ne rfl (by omega) (by decide) (fun h4 => ?_) (fun h4 => ?_)
        · refine mg_run 1 rfl ?_
          refine mg_callN [.int (nI c)] rfl rfl rfl rfl rfl (c_LB_isLetter (fun hL => ?_) (fun hL => ?_))
          · rw [let_nI (by omega)] at hL
            refine mg_zne rfl (by decide) (fun _ => ?_) (fun h => absurd h (by decide))
            refine lp_Gr_atom h (fun M' q1 q2 => hQ (0, ar, be, gr_inc am be) ?_ M' q1 q2)
            unfold gr_term
            rw [if_neg h1, if_neg h2, if_neg h3, if_neg h4, if_pos hL]
          · rw [let_nI (by omega)] at hL
            refine mg_zne rfl (by decide) (fun h => absurd h (by decide)) (fun _ => ?_)
            refine mg_run 1 rfl ?_
            refine mg_callN [.int (nI c)] rfl rfl rfl rfl rfl (c_LB_isCombinator (by omega) (fun hC => ?_) (fun hC => ?_))
            · refine mg_zne rfl (by decide) (fun _ => ?_) (fun h => absurd h (by decide))
              refine lp_Gr_atom h (fun M' q1 q2 => hQ (0, ar, be, gr_inc am be) ?_ M' q1 q2)
              unfold gr_term
              rw [if_neg h1, if_neg h2, if_neg h3, if_neg h4, if_neg hL]
              exact if_pos hC
            · refine mg_zne rfl (by decide) (fun h => absurd h (by decide)) (fun _ => ?_)
              refine mg_run 1 rfl ?_
              refine mg_zr rfl rfl (Or.inl rfl) rfl rfl (hN ?_)
              unfold gr_term
              rw [if_neg h1, if_neg h2, if_neg h3, if_neg h4, if_neg hL]
              exact if_neg hC
        · refine mg_run 2 rfl ?_
          refine mg_put rfl rfl g1 rfl rfl ?_
          refine mg_run 1 rfl ?_
          refine lp_Gr_atom (h.ste 3) (fun M' q1 q2 => hQ (3, ar, be, gr_inc am be) ?_ M' q1 ((on_30 _).tr q2))
          unfold gr_term
          rw [if_neg h1, if_neg h2, if_neg h3, if_pos h4]
      · refine mg_run 2 rfl ?_
        refine mg_put rfl rfl g1 rfl rfl ?_
        refine mg_run 1 rfl ?_
        refine lp_Gr_atom (h.ste 1) (fun M' q1 q2 => hQ (1, ar, be, gr_inc am be) ?_ M' q1 ((on_30 _).tr q2))
        unfold gr_term
        rw [if_neg h1, if_neg h2, if_pos h3]
    · refine mg_run 2 rfl ?_
      refine mg_callV [.int (nI i)] rfl rfl rfl g1 rfl rfl rfl rfl (c_Gr_opens h hi (fun h5 M' q1 q2 => ?_) (fun h5 => ?_))
      · refine mg_zr rfl rfl (Or.inr rfl) rfl rfl (hQ (0, be :: ar, i + 1, nup (gr_inc am be) (i + 1) 0) ?_ M' q1 q2)
        unfold gr_term
        rw [if_neg h1, if_pos h2, if_pos h5]
      · refine mg_zr rfl rfl (Or.inl rfl) rfl rfl (hN ?_)
        unfold gr_term
        rw [if_neg h1, if_pos h2, if_neg h5]
  · refine mg_run 1 rfl ?_
    refine mg_callV [] rfl rfl rfl g1 rfl rfl rfl rfl (c_Gr_closes h hab (fun b ar' e h5 M' q1 q2 => ?_) (fun h5 => ?_))
    · refine mg_zr rfl rfl (Or.inr rfl) rfl rfl (hQ (0, ar', b, am) ?_ M' q1 q2)
      subst e
      unfold gr_term
      rw [if_pos h1]
      exact if_neg h5
    · refine mg_zr rfl rfl (Or.inl rfl) rfl rfl (hN ?_)
      unfold gr_term
      rw [if_pos h1]
      rcases h5 with rfl | h5
      · rfl
      · cases ar with
        | nil => rfl
        | cons b ar' => exact if_pos h5
/-- the end of a term, or of a text -/
def gr_end (st : Nat) (ar : List Nat) (be : Nat) (am : Nat → Nat) : Bool := decide ((st = 0 ∨ st = 4) ∧ ar.length = 0 ∧ 0 < am be)
theorem lp_Gr_end (h : gr_is M st ar be am) (hab : am be < 2 ^ 31) {x : Nat} (hx : x < 2) (hQ : ∀ y, y = (if x = 1 ∧ ar.length = 0 ∧ 0 < am be then 1 else 0) → Q (.inl (some (.int (nI y)))) M) : mm_Go l sc Y_Gr_mayEnd 0 0 M [some (.ref 30), some (.int (nI x))] [] 21 Q := by
  obtain ⟨f, w, ⟨g1, g2, g3⟩, hf, hw, hl, hbe, har⟩ := h
  refine mg_run 1 rfl ?_
  refine mg_zeq rfl (by omega) (fun h1 => ?_) (fun h1 => ?_)
  · refine mg_run 1 rfl ?_
    exact mg_zr rfl rfl (Or.inl rfl) rfl rfl (hQ 0 (by rw [if_neg (by omega)]))
  · refine mg_run 1 rfl ?_
    refine mg_get rfl rfl g1 rfl ?_
    refine mg_zne rfl (by omega) (fun h2 => ?_) (fun h2 => ?_)
    · refine mg_run 1 rfl ?_
      exact mg_zr rfl rfl (Or.inl rfl) rfl rfl (hQ 0 (by rw [if_neg (by omega)]))
    · refine mg_run 1 rfl ?_
      refine mg_get rfl rfl g1 rfl ?_
      refine mg_run 1 rfl ?_
      refine mg_get rfl rfl g1 rfl ?_
      refine mg_ildN rfl g2 (by decide) hbe ?_
      rw [hf be hbe]
      refine mg_zle rfl hab (fun h3 => ?_) (fun h3 => ?_)
      · refine mg_run 1 rfl ?_
        exact mg_zr rfl rfl (Or.inl rfl) rfl rfl (hQ 0 (by rw [if_neg (by omega)]))
      · refine mg_run 2 rfl ?_
        exact mg_zr rfl rfl (Or.inr rfl) rfl rfl (hQ 1 (by rw [if_pos (by omega)]))
theorem c_Gr_mayEnd (h : gr_is M st ar be am) (hst : st < 5) (hab : am be < 2 ^ 31) (hQ : gr_end st ar be am = true → Q (.inl (some (.int (nI 1)))) M) (hN : gr_end st ar be am = false → Q (.inl (some (.int (nI 0)))) M) : mm_Ct l sc Y_Gr_mayEnd M [.ref 30] Q := by
  obtain ⟨f, w, ⟨g1, g2, g3⟩, -⟩ := id h
  have fin : ∀ x, (x = 1 ↔ (st = 0 ∨ st = 4)) → ∀ y, y = (if x = 1 ∧ ar.length = 0 ∧ 0 < am be then 1 else 0) → Q (.inl (some (.int (nI y)))) M := by
    intro x hx y hy
    by_cases hc : x = 1 ∧ ar.length = 0 ∧ 0 < am be
    · rw [if_pos hc] at hy
      rw [hy]
      exact hQ (decide_eq_true ⟨hx.mp hc.1, hc.2⟩)
    · rw [if_neg hc] at hy
      rw [hy]
      exact hN (decide_eq_false (fun h9 => hc ⟨hx.mpr h9.1, h9.2⟩))
  refine mm_by k_Gr_mayEnd w_Gr_mayEnd rfl rfl ?_
  refine mg_run 1 rfl ?_
  refine mg_get rfl rfl g1 rfl ?_
  refine mg_zeq rfl (by omega) (fun h1 => ?_) (fun h1 => ?_)
  · refine mg_run 3 rfl ?_
    exact lp_Gr_end h hab (x := 1) (by decide) (fin 1 (by omega))
  · refine mg_run 1 rfl ?_
    refine mg_get rfl rfl g1 rfl ?_
    refine mg_run 1 rfl ?_
    refine mg_ne rfl (by omega) (by decide) (fun h2 => ?_) (fun h2 => ?_)
    · refine mg_run 2 rfl ?_
      exact lp_Gr_end h hab (x := 0) (by decide) (fin 0 (by omega))
    · refine mg_run 3 rfl ?_
      exact lp_Gr_end h hab (x := 1) (by decide) (fin 1 (by omega))
/-- from the look at a blank on -/
theorem lp_Gr_rest {pc : Nat} (h : gr_is M st ar be am) (hi : i < 400) (hc : c < 256) (hst : st < 5) (hab : am be < 2 ^ 31) (hQ : ∀ G, gr_rest c i st ar be am = some G → ∀ M', gr_iG M' G → mm_on (mm_rg 30 32) M M' → Q (.inl (some (.int (nI 1)))) M') (hN : gr_rest c i st ar be am = none → Q (.inl (some (.int (nI 0)))) M) (hpc : pc = 40) : mm_Go l sc Y_Gr_accepts 0 0 M [some (.ref 30), some (.int (nI c)), some (.int (nI i))] [] pc Q := by
  subst hpc
  obtain ⟨f, w, ⟨g1, g2, g3⟩, -⟩ := id h
  refine mg_run 2 rfl ?_
  refine mg_ne rfl (by omega) (by decide) (fun h1 => ?_) (fun h1 => ?_)
  · refine mg_run 1 rfl ?_
    refine mg_get rfl rfl g1 rfl ?_
    refine mg_zne rfl (by omega) (fun h2 => ?_) (fun h2 => ?_)
    · have e : gr_rest c i st ar be am = gr_names c i st ar be am := by
        unfold gr_rest
        rw [if_neg h1, if_neg (by omega)]
      rw [e] at hQ hN
      refine mg_run 3 rfl ?_
      refine mg_callV [.int (nI c), .int (nI i)] rfl rfl rfl g1 rfl rfl rfl rfl (c_Gr_acceptsInNames h hi hc hst (fun G q1 M' q2 q3 => ?_) (fun q1 => ?_))
      · exact mg_zr rfl rfl (Or.inr rfl) rfl rfl (hQ G q1 M' q2 q3)
      · exact mg_zr rfl rfl (Or.inl rfl) rfl rfl (hN q1)
    · have e : gr_rest c i st ar be am = gr_term c i ar be am := by
        unfold gr_rest
        rw [if_neg h1, if_pos h2]
      rw [e] at hQ hN
      subst h2
      refine mg_run 3 rfl ?_
      refine mg_callV [.int (nI c), .int (nI i)] rfl rfl rfl g1 rfl rfl rfl rfl (c_Gr_acceptsInTerm h hi hc hab (fun G q1 M' q2 q3 => ?_) (fun q1 => ?_))
      · refine mg_run 1 rfl ?_
        exact mg_zr rfl rfl (Or.inr rfl) rfl rfl (hQ G q1 M' q2 q3)
      · refine mg_run 1 rfl ?_
        exact mg_zr rfl rfl (Or.inl rfl) rfl rfl (hN q1)
  · refine mg_run 1 rfl ?_
    exact mg_zr rfl rfl (Or.inr rfl) rfl rfl (hQ (st, ar, be, am) (if_pos h1) M h (mm_on.rf _ M))
theorem c_Gr_accepts (h : gr_is M st ar be am) (hi : i < 400) (hc : c < 256) (hst : st < 5) (hab : am be < 2 ^ 31) (hQ : ∀ G, gr_step c i st ar be am = some G → ∀ M', gr_iG M' G → mm_on (mm_rg 30 32) M M' → Q (.inl (some (.int (nI 1)))) M') (hN : gr_step c i st ar be am = none → ∀ M', lb_gra M' → mm_on (mm_rg 30 32) M M' → Q (.inl (some (.int (nI 0)))) M') : mm_Ct l sc Y_Gr_accepts M [.ref 30, .int (nI c), .int (nI i)] Q := by
  obtain ⟨f, w, ⟨g1, g2, g3⟩, -⟩ := id h
  refine mm_by k_Gr_accepts w_Gr_accepts rfl rfl ?_
  refine mg_run 1 rfl ?_
  refine mg_get rfl rfl g1 rfl ?_
  refine mg_run 1 rfl ?_
  refine mg_ne rfl (by omega) (by decide) (fun h1 => ?_) (fun h1 => ?_)
  · refine mg_run 1 rfl ?_
    refine mg_get rfl rfl g1 rfl ?_
    refine mg_run 1 rfl ?_
    refine mg_ne rfl (by omega) (by decide) (fun h2 => ?_) (fun h2 => ?_)
    · have e : gr_step c i st ar be am = gr_rest c i st ar be am := by
        unfold gr_step
        rw [if_neg h1, if_neg h2]
      rw [e] at hQ hN
      exact lp_Gr_rest h hi hc hst hab hQ (fun q => hN q M h.gra (mm_on.rf _ M)) rfl
    · refine mg_run 2 rfl ?_
      refine mg_put rfl rfl g1 rfl rfl ?_
      have hs := h.ste 0
      refine mg_run 1 rfl ?_
      refine mg_callN [.int (nI c)] rfl rfl rfl rfl rfl (c_LB_isDigit (by omega) (fun hD => ?_) (fun hD => ?_))
      · refine mg_zeq rfl (by decide) (fun h => absurd h (by decide)) (fun _ => ?_)
        refine mg_run 1 rfl ?_
        refine mg_zr rfl rfl (Or.inr rfl) rfl rfl (hQ (0, ar, be, am) ?_ _ hs (on_30 _))
        unfold gr_step
        rw [if_neg h1, if_pos h2]
        exact if_pos hD
      · refine mg_zeq rfl (by decide) (fun _ => ?_) (fun h => absurd h (by decide))
        have e : gr_step c i st ar be am = gr_rest c i 0 ar be am := by
          unfold gr_step
          rw [if_neg h1, if_pos h2]
          exact if_neg hD
        rw [e] at hQ hN
        exact lp_Gr_rest hs hi hc (by decide) hab (fun G q1 M' q2 q3 => hQ G q1 M' q2 ((on_30 _).tr q3)) (fun q => hN q _ hs.gra (on_30 _)) rfl
  · refine mg_run 2 rfl ?_
    refine mg_put rfl rfl g1 rfl rfl ?_
    have hs := h.ste 4
    refine mg_run 1 rfl ?_
    refine mg_callN [.int (nI c)] rfl rfl rfl rfl rfl (c_LB_isDigit (by omega) (fun hD => ?_) (fun hD => ?_))
    · refine mg_zr rfl rfl (Or.inr rfl) rfl rfl (hQ (4, ar, be, am) ?_ _ hs (on_30 _))
      unfold gr_step
      rw [if_pos h1]
      exact if_pos hD
    · refine mg_zr rfl rfl (Or.inl rfl) rfl rfl (hN ?_ _ hs.gra (on_30 _))
      unfold gr_step
      rw [if_pos h1]
      exact if_neg hD
end
