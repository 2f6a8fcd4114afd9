/-! The builder: the row of a text. -/
def bu_st (M : mm_M) (nm : Nat → Int32) (k : Nat) (op : List Nat) : Prop := ∃ ar, bu_is M (nI k) (nI op.length) nm ar ∧ sk_in ar op ∧ op.length ≤ 20
theorem bu_st.bu {M : mm_M} {nm : Nat → Int32} {k : Nat} {op : List Nat} (h : bu_st M nm k op) : lb_bu M := by
  obtain ⟨ar, h1, -⟩ := h
  exact ⟨_, _, _, _, h1⟩
theorem bu_st.keep {M M' : mm_M} {lo hi : Nat} {nm : Nat → Int32} {k : Nat} {op : List Nat} (h : bu_st M nm k op) (hon : mm_on (mm_rg lo hi) M M') (hd : 35 < lo ∨ hi < 33) : bu_st M' nm k op := by
  obtain ⟨ar, ⟨h1, h2, h3⟩, h4⟩ := h
  exact ⟨ar, ⟨(hon 33 (mm_rg_n (by omega))).trans h1, (hon 34 (mm_rg_n (by omega))).trans h2, (hon 35 (mm_rg_n (by omega))).trans h3⟩, h4⟩
/-- what a letter means under the names -/
def bu_mean (nm : Nat → Int32) (c k : Nat) : Nat → Nat
  | 0 => c
  | j + 1 => if nm j = nI c then 1000 + k - 1 - j else bu_mean nm c k j
def bu_rep : Nat → List Nat
  | 0 => []
  | n + 1 => [64] ++ [1001] ++ bu_rep n
def bu_num (n : Nat) : List Nat := [92] ++ [92] ++ bu_rep n ++ [1000]
section
variable {l : Launch} {sc : Nat × (Nat → Int32)} {M : mm_M} {Q : mm_O → mm_M → Prop} {nm : Nat → Int32} {k : Nat} {op : List Nat}
theorem on_33 (e : va_E) : mm_on (mm_rg 33 35) M (M.set 33 e) := mm_on.set M _ (by unfold mm_rg; omega)
theorem on_34 (e : va_E) : mm_on (mm_rg 33 35) M (M.set 34 e) := mm_on.set M _ (by unfold mm_rg; omega)
theorem on_35 (e : va_E) : mm_on (mm_rg 33 35) M (M.set 35 e) := mm_on.set M _ (by unfold mm_rg; omega)
theorem lp_Bu_addApplications {n t : Nat} (hn : n ≤ 1000) : ∀ m i (M : mm_M) (bf : List Nat × Nat) (out : List Nat), te_is M t bf.1 bf.2 → wr bf out → n - i = m → i ≤ 1001 →
    (∀ M' bf', te_is M' t bf'.1 bf'.2 → wr bf' (out ++ List.replicate m 64) → mm_on (te_P t) M M' → Q (.inl none) M') →
    mm_Go l sc Y_Bu_addApplications 0 0 M [some (.ref 33), some (.int (nI n)), some (.ref t), some (.int (nI i))] [] 2 Q := by
  intro m
  induction m with
  | zero =>
    intro i M bf out hT hw hm hi hQ
    refine mg_run 2 rfl ?_
    refine mg_ge rfl (by omega) (by omega) (fun _ => ?_) (fun h => absurd h (by omega))
    refine mg_vr rfl rfl rfl rfl ?_
    exact hQ M bf hT (by rw [List.replicate_zero, List.append_nil]; exact hw) (mm_on.rf _ M)
  | succ m ih =>
    intro i M bf out hT hw hm hi hQ
    obtain ⟨f, t1, -⟩ := id hT
    refine mg_run 2 rfl ?_
    refine mg_ge rfl (by omega) (by omega) (fun h => absurd h (by omega)) (fun _ => ?_)
    refine mg_run 2 rfl ?_
    refine mg_callV [.int (nI 64)] rfl rfl rfl t1 rfl rfl rfl rfl (c_Te_add hT (fun M1 p1 p2 => ?_))
    refine mg_incN rfl rfl rfl ?_
    refine mg_run 1 rfl ?_
    refine ih (i + 1) M1 _ (out ++ [64]) p1 (hw.add _) (by omega) (by omega) (fun M' bf' q1 q2 q3 => hQ M' bf' q1 ?_ (p2.tr q3))
    rw [List.replicate_succ]
    rw [List.append_assoc] at q2
    exact q2
theorem c_Bu_addApplications {n t : Nat} (hn : n ≤ 1000) {bf : List Nat × Nat} {out : List Nat} (hT : te_is M t bf.1 bf.2) (hw : wr bf out) (hQ : ∀ M' bf', te_is M' t bf'.1 bf'.2 → wr bf' (out ++ List.replicate (n - 1) 64) → mm_on (te_P t) M M' → Q (.inl none) M') : mm_Ct l sc Y_Bu_addApplications M [.ref 33, .int (nI n), .ref t] Q := by
  refine mm_by k_Bu_addApplications w_Bu_addApplications rfl rfl ?_
  refine mg_run 2 rfl ?_
  exact lp_Bu_addApplications hn _ 1 M bf out hT hw rfl (by decide) hQ
theorem lp_Bu_addNumeral {n t : Nat} (hn : n ≤ 10000) : ∀ m i (M : mm_M) (bf : List Nat × Nat) (out : List Nat), te_is M t bf.1 bf.2 → wr bf out → n - i = m → i ≤ n →
    (∀ M' bf', te_is M' t bf'.1 bf'.2 → wr bf' (out ++ bu_rep m ++ [1000]) → mm_on (te_P t) M M' → Q (.inl none) M') →
    mm_Go l sc Y_Bu_addNumeral 0 0 M [some (.ref 33), some (.int (nI n)), some (.ref t), some (.int (nI i))] [] 14 Q := by
  intro m
  induction m with
  | zero =>
    intro i M bf out hT hw hm hi hQ
    obtain ⟨f, t1, -⟩ := id hT
    refine mg_run 2 rfl ?_
    refine mg_ge rfl (by omega) (by omega) (fun _ => ?_) (fun h => absurd h (by omega))
    refine mg_run 2 rfl ?_
    refine mg_callV [.int (nI 1000)] rfl rfl rfl t1 rfl rfl rfl rfl (c_Te_add hT (fun M1 p1 p2 => ?_))
    refine mg_vr rfl rfl rfl rfl ?_
    refine hQ M1 _ p1 ?_ p2
    rw [bu_rep, List.append_nil]
    exact hw.add 1000
  | succ m ih =>
    intro i M bf out hT hw hm hi hQ
    obtain ⟨f, t1, -⟩ := id hT
    refine mg_run 2 rfl ?_
    refine mg_ge rfl (by omega) (by omega) (fun h => absurd h (by omega)) (fun _ => ?_)
    refine mg_run 2 rfl ?_
    refine mg_callV [.int (nI 64)] rfl rfl rfl t1 rfl rfl rfl rfl (c_Te_add hT (fun M1 p1 p2 => ?_))
    obtain ⟨f1, t2, -⟩ := id p1
    refine mg_run 2 rfl ?_
    refine mg_callV [.int (nI 1001)] rfl rfl rfl t2 rfl rfl rfl rfl (c_Te_add p1 (fun M2 r1 r2 => ?_))
    refine mg_incN rfl rfl rfl ?_
    refine mg_run 1 rfl ?_
    refine ih (i + 1) M2 _ (out ++ [64] ++ [1001]) r1 ((hw.add 64).add 1001) (by omega) (by omega) (fun M' bf' q1 q2 q3 => hQ M' bf' q1 ?_ ((p2.tr r2).tr q3))
    rw [bu_rep]
    have e : out ++ ([64] ++ [1001] ++ bu_rep m) ++ [1000] = out ++ [64] ++ [1001] ++ bu_rep m ++ [1000] := by simp only [List.append_assoc]
    rw [e]
    exact q2
theorem c_Bu_addNumeral {n t : Nat} (hn : n ≤ 10000) {bf : List Nat × Nat} {out : List Nat} (hT : te_is M t bf.1 bf.2) (hw : wr bf out) (hQ : ∀ M' bf', te_is M' t bf'.1 bf'.2 → wr bf' (out ++ bu_num n) → mm_on (te_P t) M M' → Q (.inl none) M') : mm_Ct l sc Y_Bu_addNumeral M [.ref 33, .int (nI n), .ref t] Q := by
  obtain ⟨f, t1, -⟩ := id hT
  refine mm_by k_Bu_addNumeral w_Bu_addNumeral rfl rfl ?_
  refine mg_run 2 rfl ?_
  refine mg_callV [.int (nI 92)] rfl rfl rfl t1 rfl rfl rfl rfl (c_Te_add hT (fun M1 p1 p2 => ?_))
  obtain ⟨f1, t2, -⟩ := id p1
  refine mg_run 2 rfl ?_
  refine mg_callV [.int (nI 92)] rfl rfl rfl t2 rfl rfl rfl rfl (c_Te_add p1 (fun M2 r1 r2 => ?_))
  refine mg_run 2 rfl ?_
  refine lp_Bu_addNumeral hn _ 0 M2 _ (out ++ [92] ++ [92]) r1 ((hw.add 92).add 92) rfl (Nat.zero_le _) (fun M' bf' q1 q2 q3 => hQ M' bf' q1 ?_ ((p2.tr r2).tr q3))
  have e : out ++ bu_num n = out ++ [92] ++ [92] ++ bu_rep (n - 0) ++ [1000] := by
    unfold bu_num
    simp only [List.append_assoc, Nat.sub_zero]
  rw [e]
  exact q2
theorem c_Bu_opens (h : bu_st M nm k op) (hk : k ≤ 400) (hQ : ∀ M', bu_st M' nm k (if op.length < 20 then k :: op else op) → mm_on (mm_rg 33 35) M M' → Q (.inl none) M') : mm_Ct l sc Y_Bu_opens M [.ref 33] Q := by
  obtain ⟨ar, ⟨g1, g2, g3⟩, hs, hl⟩ := id h
  refine mm_by k_Bu_opens w_Bu_opens rfl rfl ?_
  refine mg_run 1 rfl ?_
  refine mg_get rfl rfl g1 rfl ?_
  refine mg_run 1 rfl ?_
  refine mg_ge rfl (by omega) (by decide) (fun h1 => ?_) (fun h1 => ?_)
  · refine mg_vr rfl rfl rfl rfl ?_
    rw [if_neg (by omega)] at hQ
    exact hQ M h (mm_on.rf _ M)
  · refine mg_run 1 rfl ?_
    refine mg_get rfl rfl g1 rfl ?_
    refine mg_run 1 rfl ?_
    refine mg_get rfl rfl g1 rfl ?_
    refine mg_run 1 rfl ?_
    refine mg_get rfl rfl g1 rfl ?_
    refine mg_istN rfl g3 (by decide) h1 ?_
    have a3 := mm_at_set (.inl (0, 20, .inl (upd ar op.length (nI k)))) g3
    have a1 : (M.set 35 (.inl (0, 20, .inl (upd ar op.length (nI k)))))[33]? = _ := mm_at_ne (by decide) g1
    have a2 : (M.set 35 (.inl (0, 20, .inl (upd ar op.length (nI k)))))[34]? = _ := mm_at_ne (by decide) g2
    refine mg_run 2 rfl ?_
    refine mg_get rfl rfl a1 rfl ?_
    refine mg_run 1 rfl ?_
    refine mg_addN rfl ?_
    refine mg_put rfl rfl a1 rfl rfl ?_
    refine mg_vr rfl rfl rfl rfl ?_
    rw [if_pos h1] at hQ
    exact hQ _ ⟨_, ⟨mm_at_set _ a1, mm_at_ne (by decide) a2, mm_at_ne (by decide) a3⟩, sk_push hs, by show op.length + 1 ≤ 20; omega⟩ ((on_35 _).tr (on_33 _))
theorem c_Bu_closes (h : bu_st M nm k op) (hQ : ∀ M', (∀ x op', op = x :: op' → bu_st M' nm x op') → (op = [] → bu_st M' nm k []) → mm_on (mm_rg 33 35) M M' → Q (.inl none) M') : mm_Ct l sc Y_Bu_closes M [.ref 33] Q := by
  obtain ⟨ar, ⟨g1, g2, g3⟩, hs, hl⟩ := id h
  refine mm_by k_Bu_closes w_Bu_closes rfl rfl ?_
  refine mg_run 1 rfl ?_
  refine mg_get rfl rfl g1 rfl ?_
  refine mg_zle rfl (by omega) (fun h1 => ?_) (fun h1 => ?_)
  · refine mg_vr rfl rfl rfl rfl ?_
    have e := List.length_eq_zero_iff.mp h1
    subst e
    exact hQ M (fun x op' h => by cases h) (fun _ => h) (mm_on.rf _ M)
  · cases op with
    | nil => exact absurd h1 (by decide)
    | cons x op' =>
      refine mg_run 2 rfl ?_
      refine mg_get rfl rfl g1 rfl ?_
      refine mg_run 1 rfl ?_
      refine mg_subN rfl (by exact h1) ?_
      refine mg_put rfl rfl g1 rfl rfl ?_
      have a1 := mm_at_set (.inr (1, [.ref 34, .ref 35, .int (nI k), .int (nI op'.length)])) g1
      have a2 : (M.set 33 (.inr (1, [.ref 34, .ref 35, .int (nI k), .int (nI op'.length)])))[34]? = _ := mm_at_ne (by decide) g2
      have a3 : (M.set 33 (.inr (1, [.ref 34, .ref 35, .int (nI k), .int (nI op'.length)])))[35]? = _ := mm_at_ne (by decide) g3
      have hl2 : op'.length + 1 ≤ 20 := hl
      refine mg_run 2 rfl ?_
      refine mg_get rfl rfl a1 rfl ?_
      refine mg_run 1 rfl ?_
      refine mg_get rfl rfl a1 rfl ?_
      refine mg_ildN rfl a3 (by decide) (by omega) ?_
      rw [sk_top hs]
      refine mg_put rfl rfl a1 rfl rfl ?_
      refine mg_vr rfl rfl rfl rfl ?_
      refine hQ _ (fun y o2 e => ?_) (fun e => by cases e) ((on_33 _).tr (on_33 _))
      cases e
      exact ⟨ar, ⟨mm_at_set _ a1, mm_at_ne (by decide) a2, mm_at_ne (by decide) a3⟩, sk_pop hs, by omega⟩
theorem c_Bu_addAbstraction {c : Nat} {bf : List Nat × Nat} {out : List Nat} (h : bu_st M nm k op) (hk : k < 400) (hT : te_is M 26 bf.1 bf.2) (hw : wr bf out)
    (hQ : ∀ M1 M' bf', bu_st M' (upd nm k (nI c)) (k + 1) op → bu_st M1 (upd nm k (nI c)) (k + 1) op → mm_on (mm_rg 33 35) M M1 → te_is M' 26 bf'.1 bf'.2 → wr bf' (out ++ [92]) → mm_on (te_P 26) M1 M' → Q (.inl none) M') : mm_Ct l sc Y_Bu_addAbstraction M [.ref 33, .int (nI c), .ref 26] Q := by
  obtain ⟨ar, ⟨g1, g2, g3⟩, hs, hl⟩ := id h
  refine mm_by k_Bu_addAbstraction w_Bu_addAbstraction rfl rfl ?_
  refine mg_run 1 rfl ?_
  refine mg_get rfl rfl g1 rfl ?_
  refine mg_run 1 rfl ?_
  refine mg_ge rfl (by omega) (by decide) (fun h1 => absurd h1 (by omega)) (fun h1 => ?_)
  refine mg_run 1 rfl ?_
  refine mg_get rfl rfl g1 rfl ?_
  refine mg_run 1 rfl ?_
  refine mg_get rfl rfl g1 rfl ?_
  refine mg_run 1 rfl ?_
  refine mg_istN rfl g2 (by decide) hk ?_
  have a2 := mm_at_set (.inl (0, 400, .inl (upd nm k (nI c)))) g2
  have a1 : (M.set 34 (.inl (0, 400, .inl (upd nm k (nI c)))))[33]? = _ := mm_at_ne (by decide) g1
  have a3 : (M.set 34 (.inl (0, 400, .inl (upd nm k (nI c)))))[35]? = _ := mm_at_ne (by decide) g3
  refine mg_run 2 rfl ?_
  refine mg_get rfl rfl a1 rfl ?_
  refine mg_run 1 rfl ?_
  refine mg_addN rfl ?_
  refine mg_put rfl rfl a1 rfl rfl ?_
  have hb1 : bu_st ((M.set 34 (.inl (0, 400, .inl (upd nm k (nI c))))).set 33 (.inr (1, [.ref 34, .ref 35, .int (nI (k + 1)), .int (nI op.length)]))) (upd nm k (nI c)) (k + 1) op := ⟨ar, ⟨mm_at_set _ a1, mm_at_ne (by decide) a2, mm_at_ne (by decide) a3⟩, hs, hl⟩
  have hon : mm_on (mm_rg 33 35) M ((M.set 34 (.inl (0, 400, .inl (upd nm k (nI c))))).set 33 (.inr (1, [.ref 34, .ref 35, .int (nI (k + 1)), .int (nI op.length)]))) := (on_34 _).tr (on_33 _)
  have hT1 := hT.keep hon (mm_rg_n (by decide)) (mm_rg_n (by decide))
  obtain ⟨f, t1, -⟩ := id hT1
  refine mg_run 2 rfl ?_
  refine mg_callV [.int (nI 92)] rfl rfl rfl t1 rfl rfl rfl rfl (c_Te_add hT1 (fun M2 p1 p2 => ?_))
  refine mg_vr rfl rfl rfl rfl ?_
  exact hQ _ M2 _ (hb1.keep p2.te (by decide)) hb1 hon p1 (hw.add 92) p2
theorem mg_sub1 {Y : mm_Y} {k2 n a : Nat} {L : mm_L} {S : List Value} {pc nx aux : Nat} {v : Int32} (hq : mm_at (mm_tab Y) pc = some (.isub, nx, aux, v)) (kk : mm_Go l sc Y k2 n M L (.int (nI a + -1) :: S) nx Q) : mm_Go l sc Y k2 n M L (.int (nI 1) :: .int (nI a) :: S) pc Q := by
  refine mg_x (M' := M) (L' := L) (S' := .int (nI a - nI 1) :: S) hq rfl ?_
  rw [Int32.sub_eq_add_neg]
  exact kk
theorem lp_Bu_meaningOf {c : Nat} (h : bu_st M nm k op) (hk : k ≤ 400) (hc : c < 256) : ∀ j, j ≤ k → Q (.inl (some (.int (nI (bu_mean nm c k j))))) M → mm_Go l sc Y_Bu_meaningOf 0 0 M [some (.ref 33), some (.int (nI c)), some (.int (nI j + -1))] [] 7 Q := by
  obtain ⟨ar, ⟨g1, g2, g3⟩, hs, hl⟩ := id h
  intro j
  induction j with
  | zero =>
    intro hj hQ
    have e : nI 0 + -1 = (-1 : Int32) := by decide
    rw [e]
    refine mg_run 1 rfl ?_
    refine mg_zltM rfl ?_
    refine mg_run 1 rfl ?_
    exact mg_ir rfl rfl rfl rfl hQ
  | succ j ih =>
    intro hj hQ
    rw [pk_m1]
    refine mg_run 1 rfl ?_
    refine mg_zlt rfl (by omega) ?_
    refine mg_run 1 rfl ?_
    refine mg_get rfl rfl g1 rfl ?_
    refine mg_run 1 rfl ?_
    refine mg_ildN rfl g2 (by decide) (by omega) ?_
    refine mg_run 1 rfl ?_
    refine mg_icmp rfl (fun h1 => ?_) (fun h1 => ?_)
    · refine mg_run 2 rfl ?_
      have h2 : ¬ nm j = nI c := h1
      rw [bu_mean, if_neg h2] at hQ
      exact ih (by omega) hQ
    · have h2 : nm j = nI c := Decidable.not_not.mp h1
      rw [bu_mean, if_pos h2] at hQ
      refine mg_run 2 rfl ?_
      refine mg_get rfl rfl g1 rfl ?_
      refine mg_addN rfl ?_
      refine mg_run 1 rfl ?_
      refine mg_subN rfl (by omega) ?_
      refine mg_run 1 rfl ?_
      refine mg_subN rfl (by omega) ?_
      exact mg_ir rfl rfl rfl rfl hQ
theorem c_Bu_meaningOf {c : Nat} (h : bu_st M nm k op) (hk : k ≤ 400) (hc : c < 256) (hQ : Q (.inl (some (.int (nI (bu_mean nm c k k))))) M) : mm_Ct l sc Y_Bu_meaningOf M [.ref 33, .int (nI c)] Q := by
  obtain ⟨ar, ⟨g1, g2, g3⟩, hs, hl⟩ := id h
  refine mm_by k_Bu_meaningOf w_Bu_meaningOf rfl rfl ?_
  refine mg_run 1 rfl ?_
  refine mg_get rfl rfl g1 rfl ?_
  refine mg_run 1 rfl ?_
  refine mg_sub1 rfl ?_
  refine mg_run 1 rfl ?_
  exact lp_Bu_meaningOf h hk hc k (Nat.le_refl _) hQ
end
