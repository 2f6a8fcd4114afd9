/-! The reference: steps, reduce, redexes. -/
section
variable {l : Launch} {sc : Nat × (Nat → Int32)} {M0 M : mm_M} {Q : mm_O → mm_M → Prop} {r : List Nat} {x : Nat → Int32} {A : Nat → Nat → Int32} {sl : Nat → List Nat}
/-- what steps leaves -/
def rn_k (M0 : mm_M) (x : Nat → Int32) (A : Nat → Nat → Int32) (r : List Nat) (o : Nat) (M' : mm_M) : Prop := ∃ x' A', mo_is M0 M' x' A' ∧ fx [4, 8, 10, 11] x x' ∧ fa [3, 4, 5, 6] A A' ∧ ro_is x' A' r ∧ x' 4 = nI o
theorem lp_Mo_steps2 (h : mo_is M0 M x A) {o d : Nat} {x1 : Int32} (ho : o < 4) (hx : x 4 = nI o) (hR : ro_is x A r) (hv : ∀ i, r.getD i 0 < 10000) (hcl : cl r)
    (hQ : ∀ M', rn_k M0 x A r (if 0 < o then o else if te_fr r r.length 0 = none then 1 else 2) M' → Q (.inl (some (.int (nI d)))) M') : mm_Go l sc Y_Mo_steps 0 0 M [some (.ref 54), some (.int x1), some (.int (nI d))] [] 45 Q := by
  refine mg_run 2 rfl ?_
  refine mg_get rfl rfl h.2.1 rfl ?_
  rw [hx]
  refine mg_zle rfl (by omega) (fun e => ?_) (fun e => ?_)
  · rw [if_neg (by omega)] at hQ
    refine mg_run 1 rfl ?_
    refine mg_callV [] rfl rfl rfl h.2.1 rfl rfl rfl rfl (c_Mo_find h hR hv hcl ?_)
    cases hf : te_fr r r.length 0 with
    | none =>
      rw [if_pos hf] at hQ
      refine mg_zgeM rfl ?_
      refine mg_run 2 rfl ?_
      refine mr_put rfl rfl h rfl rfl rfl (fun M1 q1 => ?_)
      refine mg_run 1 rfl ?_
      refine mg_ir rfl rfl rfl rfl (hQ M1 ⟨_, A, q1, fx.up (by decide) _ _, fa.rf _ _, hR.fr (fx.up (ls := [4]) (by decide) _ _) (fa.rf [] A) (by decide) (by decide), pk_us⟩)
    | some i =>
      rw [if_neg (by rw [hf]; exact fun h => by cases h)] at hQ
      have h9 := (te_fr_some _ _ _ hf).2.2
      have h4 := hR.2.1
      refine mg_zge rfl (by omega) ?_
      refine mg_run 1 rfl ?_
      refine mr_put rfl rfl h rfl rfl rfl (fun M1 q1 => ?_)
      refine mg_run 1 rfl ?_
      refine mg_ir rfl rfl rfl rfl (hQ M1 ⟨_, A, q1, fx.up (by decide) _ _, fa.rf _ _, hR.fr (fx.up (ls := [4]) (by decide) _ _) (fa.rf [] A) (by decide) (by decide), pk_us⟩)
  · rw [if_pos e] at hQ
    refine mg_run 1 rfl ?_
    refine mg_get rfl rfl h.2.1 rfl ?_
    rw [hx]
    refine mg_run 1 rfl ?_
    refine mr_put rfl rfl h rfl rfl rfl (fun M1 q1 => ?_)
    refine mg_run 1 rfl ?_
    refine mg_ir rfl rfl rfl rfl (hQ M1 ⟨_, A, q1, fx.up (by decide) _ _, fa.rf _ _, hR.fr (fx.up (ls := [4]) (by decide) _ _) (fa.rf [] A) (by decide) (by decide), pk_us⟩)
theorem lp_Mo_steps (P : List Nat → Prop) (hP1 : ∀ r, P r → (∀ i, r.getD i 0 < 10000) ∧ (∀ i, i < r.length → ¬ r.getD i 0 = 0) ∧ cl r) (hP2 : ∀ r i, P r → te_fr r r.length 0 = some i → (te_step r i).length ≤ 2000 → P (te_step r i)) {N : Nat} (hN : N ≤ 1000) : ∀ m d (M : mm_M) (x : Nat → Int32) (A : Nat → Nat → Int32) (r : List Nat), N - d = m → d ≤ N → P r → mo_is M0 M x A → ro_is x A r → x 4 = nI 0 →
    (∀ M', rn_k M0 x A (te_rn m r).1 (te_rn m r).2.2 M' → Q (.inl (some (.int (nI (d + (te_rn m r).2.1))))) M') →
    mm_Go l sc Y_Mo_steps 0 0 M [some (.ref 54), some (.int (nI N)), some (.int (nI d))] [] 7 Q := by
  intro m
  induction m with
  | zero =>
    intro d M x A r hm hd hP h hR hx hQ
    obtain ⟨hv, hz, hcl⟩ := hP1 r hP
    refine mg_run 1 rfl ?_
    refine mg_get rfl rfl h.2.1 rfl ?_
    rw [hx]
    refine mg_zne rfl (by decide) (fun h => absurd h (by decide)) (fun _ => ?_)
    refine mg_run 2 rfl ?_
    refine mg_ge rfl (by omega) (by omega) (fun _ => ?_) (fun h => absurd h (by omega))
    exact lp_Mo_steps2 h (o := 0) (by decide) hx hR hv hcl (fun M' q => hQ M' q)
  | succ m ih =>
    intro d M x A r hm hd hP h hR hx hQ
    obtain ⟨hv, hz, hcl⟩ := hP1 r hP
    refine mg_run 1 rfl ?_
    refine mg_get rfl rfl h.2.1 rfl ?_
    rw [hx]
    refine mg_zne rfl (by decide) (fun h => absurd h (by decide)) (fun _ => ?_)
    refine mg_run 2 rfl ?_
    refine mg_ge rfl (by omega) (by omega) (fun h => absurd h (by omega)) (fun _ => ?_)
    refine mg_run 2 rfl ?_
    refine mg_callV [] rfl rfl rfl h.2.1 rfl rfl rfl rfl (c_Mo_step hv hz hcl h hR (fun e => ?_) (fun i e o1 M1 x1 A1 p1 p2 p3 p4 => ?_) (fun i e o1 M1 x1 A1 p1 p2 p3 p4 => ?_))
    · have er : te_rn (m + 1) r = (r, 0, 1) := by rw [te_rn, e]
      rw [er] at hQ
      refine mr_put rfl rfl h rfl rfl rfl (fun M1 q1 => ?_)
      refine mg_run 2 rfl ?_
      refine mg_get rfl rfl q1.2.1 rfl ?_
      rw [pk_us]
      refine mg_zne rfl (by decide) (fun _ => ?_) (fun h => absurd h (by decide))
      refine mg_run 1 rfl ?_
      refine mg_addN rfl ?_
      refine mg_run 3 rfl ?_
      refine mg_get rfl rfl q1.2.1 rfl ?_
      rw [pk_us]
      refine mg_zne rfl (by decide) (fun _ => ?_) (fun h => absurd h (by decide))
      have R1 := hR.fr (fx.up (ls := [4]) (k := 4) (by decide) x (nI 1)) (fa.rf [] A) (by decide) (by decide)
      refine lp_Mo_steps2 q1 (o := 1) (by decide) pk_us R1 hv hcl (fun M' q => hQ M' ?_)
      obtain ⟨x', A', k1, k2, k3, k4, k5⟩ := q
      exact ⟨x', A', k1, (fx.up (by decide) _ _).tr k2, k3, k4, k5⟩
    · have er : te_rn (m + 1) r = ((te_rn m (te_step r i)).1, (te_rn m (te_step r i)).2.1 + 1, (te_rn m (te_step r i)).2.2) := by
        rw [te_rn, e]
        exact if_pos o1
      rw [er] at hQ
      refine mr_put rfl rfl p1 rfl rfl rfl (fun M2 q1 => ?_)
      refine mg_run 2 rfl ?_
      refine mg_get rfl rfl q1.2.1 rfl ?_
      rw [pk_us]
      refine mg_zne rfl (by decide) (fun h => absurd h (by decide)) (fun _ => ?_)
      refine mg_run 2 rfl ?_
      refine mg_addN rfl ?_
      refine mg_run 2 rfl ?_
      have F1 : fx [4, 8, 10, 11] x (upd x1 4 (nI 0)) := (p2.wk (by decide)).tr (fx.up (by decide) _ _)
      refine ih (d + 1) M2 _ A1 (te_step r i) (by omega) (by omega) (hP2 r i hP e o1) q1 (p4.fr (fx.up (ls := [4]) (by decide) _ _) (fa.rf [] A1) (by decide) (by decide)) pk_us (fun M' q => ?_)
      obtain ⟨x', A', k1, k2, k3, k4, k5⟩ := q
      rw [show d + 1 + (te_rn m (te_step r i)).2.1 = d + ((te_rn m (te_step r i)).2.1 + 1) by omega]
      exact hQ M' ⟨x', A', k1, F1.tr k2, p3.tr k3, k4, k5⟩
    · have er : te_rn (m + 1) r = (r, 0, 3) := by
        rw [te_rn, e]
        exact if_neg (by omega)
      rw [er] at hQ
      refine mr_put rfl rfl p1 rfl rfl rfl (fun M2 q1 => ?_)
      refine mg_run 2 rfl ?_
      refine mg_get rfl rfl q1.2.1 rfl ?_
      rw [pk_us]
      refine mg_zne rfl (by decide) (fun _ => ?_) (fun h => absurd h (by decide))
      refine mg_run 1 rfl ?_
      refine mg_addN rfl ?_
      refine mg_run 3 rfl ?_
      refine mg_get rfl rfl q1.2.1 rfl ?_
      rw [pk_us]
      refine mg_zne rfl (by decide) (fun _ => ?_) (fun h => absurd h (by decide))
      have F1 : fx [4, 8, 10, 11] x (upd x1 4 (nI 3)) := (p2.wk (by decide)).tr (fx.up (by decide) _ _)
      have R1 := p4.fr (fx.up (ls := [4]) (k := 4) (by decide) x1 (nI 3)) (fa.rf [] A1) (by decide) (by decide)
      refine lp_Mo_steps2 q1 (o := 3) (by decide) pk_us R1 hv hcl (fun M' q => hQ M' ?_)
      obtain ⟨x', A', k1, k2, k3, k4, k5⟩ := q
      exact ⟨x', A', k1, F1.tr k2, p3.tr k3, k4, k5⟩
theorem c_Mo_steps (P : List Nat → Prop) (hP1 : ∀ r, P r → (∀ i, r.getD i 0 < 10000) ∧ (∀ i, i < r.length → ¬ r.getD i 0 = 0) ∧ cl r) (hP2 : ∀ r i, P r → te_fr r r.length 0 = some i → (te_step r i).length ≤ 2000 → P (te_step r i)) {N : Nat} (hN : N ≤ 1000) (hP : P r) (h : mo_is M0 M x A) (hR : ro_is x A r)
    (hQ : ∀ M', rn_k M0 x A (te_rn N r).1 (te_rn N r).2.2 M' → Q (.inl (some (.int (nI (te_rn N r).2.1)))) M') : mm_Ct l sc Y_Mo_steps M [.ref 54, .int (nI N)] Q := by
  refine mm_by k_Mo_steps w_Mo_steps rfl rfl ?_
  refine mg_run 4 rfl ?_
  refine mr_put rfl rfl h rfl rfl rfl (fun M1 q1 => ?_)
  refine lp_Mo_steps P hP1 hP2 hN _ 0 M1 _ A r rfl (Nat.zero_le _) hP q1 (hR.fr (fx.up (ls := [4]) (by decide) _ _) (fa.rf [] A) (by decide) (by decide)) pk_us (fun M' q => ?_)
  obtain ⟨x', A', k1, k2, k3, k4, k5⟩ := q
  rw [Nat.zero_add]
  exact hQ M' ⟨x', A', k1, (fx.up (by decide) _ _).tr k2, k3, k4, k5⟩
end
