/-! The reference: has, and what copy and has throw. -/
theorem xc_let {v : Nat} (h1 : 97 ≤ v) (h2 : v ≤ 122) : xc v = nI (10000 + v) := by
  unfold xc
  rw [if_neg (by omega), if_neg (by omega), if_neg (by omega), if_neg (by omega), if_neg (by omega), if_neg (by omega), if_neg (by omega)]
def te_h (r : List Nat) (v : Nat) : Nat → Nat → Nat
  | 0, _ => 0
  | m + 1, i => if r.getD i 0 = v then 1 else te_h r v m (i + 1)
theorem te_h_mem {r : List Nat} {v : Nat} : ∀ m i, r.length - i = m → te_h r v m i = if v ∈ r.drop i then 1 else 0 := by
  intro m
  induction m with
  | zero =>
    intro i hm
    rw [List.drop_eq_nil_of_le (by omega), if_neg List.not_mem_nil, te_h]
  | succ m ih =>
    intro i hm
    rw [te_h, te_drop (show i < r.length by omega), ih (i + 1) (by omega)]
    by_cases e : r.getD i 0 = v
    · rw [if_pos e, if_pos (by rw [e]; exact List.mem_cons_self)]
    · rw [if_neg e]
      by_cases e2 : v ∈ r.drop (i + 1)
      · rw [if_pos e2, if_pos (List.mem_cons_of_mem _ e2)]
      · rw [if_neg e2, if_neg (fun h9 => by
          rcases List.mem_cons.mp h9 with h9 | h9
          · exact e h9.symm
          · exact e2 h9)]
section
variable {l : Launch} {sc : Nat × (Nat → Int32)} {M0 M : mm_M} {Q : mm_O → mm_M → Prop} {sl : Nat → List Nat} {tp : List Nat} {pl : Int32} {o th : Nat} {x : Nat → Int32} {A : Nat → Nat → Int32}
theorem lp_Mo_has (h : mo_is M0 M x A) (hS : st_is A sl) {a v : Nat} (ha : a < 12) (hv : ∀ i, (sl a).getD i 0 < 10000) (v1 : 97 ≤ v) (v2 : v ≤ 122) : ∀ m i f, (sl a).length - i = m → i ≤ (sl a).length → f < 2 → Q (.inl (some (.int (nI (if f = 1 then 1 else te_h (sl a) v m i))))) M → mm_Go l sc Y_Mo_has 0 0 M [some (.ref 54), some (.int (nI a)), some (.int (nI v)), some (.int (nI f)), some (.int (nI i))] [] 34 Q := by
  obtain ⟨a1, a2, a3⟩ := hS a ha
  intro m
  induction m with
  | zero =>
    intro i f hm hi hf hQ
    refine mg_run 2 rfl ?_
    refine mg_get rfl rfl h.2.1 rfl ?_
    refine mg_run 1 rfl ?_
    refine mr_ild 2 rfl h (by decide) (show a < 12 from ha) ?_
    rw [a2]
    refine mg_ge rfl (by omega) (by omega) (fun _ => ?_) (fun h => absurd h (by omega))
    refine mg_run 1 rfl ?_
    have e : (if f = 1 then 1 else te_h (sl a) v 0 i) = f := by
      rw [te_h]
      split <;> omega
    rw [e] at hQ
    exact mg_zr rfl rfl (te_g1 (Nat.le_of_lt_succ hf)) rfl rfl hQ
  | succ m ih =>
    intro i f hm hi hf hQ
    refine mg_run 2 rfl ?_
    refine mg_get rfl rfl h.2.1 rfl ?_
    refine mg_run 1 rfl ?_
    refine mr_ild 2 rfl h (by decide) (show a < 12 from ha) ?_
    rw [a2]
    refine mg_ge rfl (by omega) (by omega) (fun h => absurd h (by omega)) (fun hlt => ?_)
    refine mg_run 1 rfl ?_
    refine mg_zne rfl (by omega) (fun c => ?_) (fun c => ?_)
    · refine mg_run 3 rfl ?_
      refine mg_incN rfl rfl rfl ?_
      refine mg_run 1 rfl ?_
      rw [if_pos (by omega)] at hQ
      exact ih (i + 1) 1 (by omega) (by omega) (by decide) hQ
    · rw [if_neg (by omega), te_h] at hQ
      refine mg_run 1 rfl ?_
      refine mg_get rfl rfl h.2.1 rfl ?_
      refine mg_run 2 rfl ?_
      refine mg_mulN rfl ?_
      refine mg_run 1 rfl ?_
      refine mg_addN rfl ?_
      refine mr_ild 1 rfl h (by decide) (show 2000 * a + i < 24000 by omega) ?_
      rw [a3 i hlt]
      refine mg_run 2 rfl ?_
      refine mg_addN rfl ?_
      rw [← xc_let v1 v2]
      refine mg_icmp rfl (fun e => ?_) (fun e => ?_)
      · have c1 : ¬ (sl a).getD i 0 = v := fun h9 => e ((xc_inj (hv _) (by omega)).mpr h9)
        rw [if_neg c1] at hQ
        refine mg_run 2 rfl ?_
        refine mg_incN rfl rfl rfl ?_
        refine mg_run 1 rfl ?_
        exact ih (i + 1) 0 (by omega) (by omega) (by decide) hQ
      · have c1 : (sl a).getD i 0 = v := (xc_inj (hv _) (by omega)).mp (Decidable.not_not.mp e)
        rw [if_pos c1] at hQ
        refine mg_run 3 rfl ?_
        refine mg_incN rfl rfl rfl ?_
        refine mg_run 1 rfl ?_
        exact ih (i + 1) 1 (by omega) (by omega) (by decide) hQ
theorem c_Mo_has (h : md_is M0 M sl tp pl o th) {a v : Nat} (ha : a < 12) (hv : ∀ i, (sl a).getD i 0 < 10000) (v1 : 97 ≤ v) (v2 : v ≤ 122) (hQ : ∀ M', md_is M0 M' sl tp pl o 0 → Q (.inl (some (.int (nI (if v ∈ sl a then 1 else 0))))) M') : mm_Ct l sc Y_Mo_has M [.ref 54, .int (nI a), .int (nI v)] Q := by
  obtain ⟨x, A, h1, h2, h3, h4, h5, h6⟩ := h
  refine mm_by k_Mo_has w_Mo_has rfl rfl ?_
  refine mg_run 2 rfl ?_
  refine mg_callS [.int (nI a)] rfl rfl rfl rfl rfl rfl (c_Mo_isSlot (fun _ => ?_) (fun e => absurd e (no_nI ha)))
  refine mg_zeq rfl (by decide) (fun h => absurd h (by decide)) (fun _ => ?_)
  refine mg_run 1 rfl ?_
  refine mg_callS [.int (nI v)] rfl rfl rfl rfl rfl rfl (c_Mo_isLetter (fun _ => ?_) (fun e => absurd ((let_nI (by omega)).mpr ⟨v1, v2⟩) e))
  refine mg_zne rfl (by decide) (fun _ => ?_) (fun h => absurd h (by decide))
  refine mg_run 2 rfl ?_
  refine mg_callV [.int (nI 0), .int (nI 0)] rfl rfl rfl h1.2.1 rfl rfl rfl rfl (c_Mo_throwing h1 (a := 0) (b := 0) (by decide) (by decide) (fun _ _ M1 q1 => ?_) (fun h => absurd h (by decide)) (fun _ h => absurd h (by decide)))
  refine mg_zeq rfl (by decide) (fun _ => ?_) (fun h => absurd h (by decide))
  refine mg_run 4 rfl ?_
  refine lp_Mo_has q1 h2 ha hv v1 v2 _ 0 0 rfl (Nat.zero_le _) (by decide) ?_
  rw [if_neg (by decide), te_h_mem _ 0 rfl, List.drop_zero]
  exact hQ M1 (md_th h2 h3 h4 h5 q1)
end
