/-! The reference: copy; what abstraction asks of a part. -/
theorem xc_0 {c : Nat} (h : c < 10000) : xc c = 0 ↔ c = 1000 := xc_inj (b := 1000) h (by decide)
/-- 1: the outermost index stands in m places from i on -/
def te_u (r : List Nat) : Nat → Nat → Nat
  | 0, _ => 0
  | m + 1, i => if r.getD i 0 = 1000 then 1 else te_u r m (i + 1)
theorem te_u_lt (r : List Nat) : ∀ m i, te_u r m i < 2 := by
  intro m
  induction m with
  | zero => intro i; exact Nat.zero_lt_succ _
  | succ m ih =>
    intro i
    rw [te_u]
    split
    · decide
    · exact ih _
theorem te_u_no {r : List Nat} : ∀ m i, te_u r m i = 0 → ∀ j, i ≤ j → j < i + m → ¬ r.getD j 0 = 1000 := by
  intro m
  induction m with
  | zero => intro i _ j h1 h2; omega
  | succ m ih =>
    intro i h j h1 h2
    rw [te_u] at h
    split at h
    · cases h
    · next hne =>
      by_cases e : j = i
      · subst e; exact hne
      · exact ih (i + 1) h j (by omega) (by omega)
section
variable {l : Launch} {sc : Nat × (Nat → Int32)} {M0 M : mm_M} {Q : mm_O → mm_M → Prop} {sl : Nat → List Nat} {tp : List Nat} {pl : Int32} {o th : Nat} {r out : List Nat} {x : Nat → Int32} {A : Nat → Nat → Int32}
theorem lp_Mo_isIn (h : mo_is M0 M x A) (hR : ro_is x A r) (hv : ∀ i, r.getD i 0 < 10000) {x1 : Int32} {en : Nat} (hen : en ≤ r.length) : ∀ m i f, en - i = m → i ≤ en → f < 2 → Q (.inl (some (.int (nI (if f = 1 then 1 else te_u r m i))))) M → mm_Go l sc Y_Mo_isIn 0 0 M [some (.ref 54), some (.int x1), some (.int (nI en)), some (.int (nI f)), some (.int (nI i))] [] 11 Q := by
  have h4 := hR.2.1
  intro m
  induction m with
  | zero =>
    intro i f hm hi hf hQ
    refine mg_run 2 rfl ?_
    refine mg_ge rfl (by omega) (by omega) (fun _ => ?_) (fun h => absurd h (by omega))
    refine mg_run 1 rfl ?_
    have e : (if f = 1 then 1 else te_u r 0 i) = f := by
      rw [te_u]
      split <;> omega
    rw [e] at hQ
    exact mg_zr rfl rfl (te_g1 (Nat.le_of_lt_succ hf)) rfl rfl hQ
  | succ m ih =>
    intro i f hm hi hf hQ
    refine mg_run 2 rfl ?_
    refine mg_ge rfl (by omega) (by omega) (fun h => absurd h (by omega)) (fun hlt => ?_)
    refine mg_run 1 rfl ?_
    refine mg_zne rfl (by omega) (fun c => ?_) (fun c => ?_)
    · refine mg_run 3 rfl ?_
      refine mg_incN rfl rfl rfl ?_
      refine mg_run 1 rfl ?_
      rw [if_pos (by omega)] at hQ
      exact ih (i + 1) 1 (by omega) (by omega) (by decide) hQ
    · rw [if_neg (by omega), te_u] at hQ
      refine mg_run 1 rfl ?_
      refine mg_get rfl rfl h.2.1 rfl ?_
      refine mg_run 1 rfl ?_
      refine mr_ild 3 rfl h (by decide) (show i < 2001 by omega) ?_
      rw [hR.2.2 i (by omega)]
      refine mg_if rfl (fun e => ?_) (fun e => ?_)
      · have c1 : ¬ r.getD i 0 = 1000 := fun h9 => e ((xc_0 (hv _)).mpr h9)
        rw [if_neg c1] at hQ
        refine mg_run 2 rfl ?_
        refine mg_incN rfl rfl rfl ?_
        refine mg_run 1 rfl ?_
        exact ih (i + 1) 0 (by omega) (by omega) (by decide) hQ
      · have c1 : r.getD i 0 = 1000 := (xc_0 (hv _)).mp (Decidable.not_not.mp e)
        rw [if_pos c1] at hQ
        refine mg_run 3 rfl ?_
        refine mg_incN rfl rfl rfl ?_
        refine mg_run 1 rfl ?_
        exact ih (i + 1) 1 (by omega) (by omega) (by decide) hQ
theorem c_Mo_isIn (h : mo_is M0 M x A) (hR : ro_is x A r) (hv : ∀ i, r.getD i 0 < 10000) {s : Nat} (hn : te_nd (r.drop s) 1 = 0) (hQ : Q (.inl (some (.int (nI (te_u r (te_en r s - s) s))))) M) : mm_Ct l sc Y_Mo_isIn M [.ref 54, .int (nI s)] Q := by
  have h1 := cl_len hn
  refine mm_by k_Mo_isIn w_Mo_isIn rfl rfl ?_
  refine mg_run 2 rfl ?_
  refine mg_callV [.int (nI s)] rfl rfl rfl h.2.1 rfl rfl rfl rfl (c_Mo_behind h hR hv hn ?_)
  refine mg_run 5 rfl ?_
  exact lp_Mo_isIn h hR hv (te_en_le (by omega)) _ s 0 rfl (te_en_ge r s) (by decide) hQ
theorem lp_Mo_putLess (hv : ∀ i, r.getD i 0 < 10000) (hz : ∀ i, i < r.length → ¬ r.getD i 0 = 0) {en : Nat} {x1 : Int32} (hen : en ≤ r.length) : ∀ m i (M : mm_M) (x : Nat → Int32) (A : Nat → Nat → Int32) (out : List Nat), mo_is M0 M x A → ro_is x A r → nx_is x A out → en - i = m → i ≤ en → (∀ j, i ≤ j → j < en → ¬ r.getD j 0 = 1000) →
    (∀ M' x' A', mo_is M0 M' x' A' → fx [10, 11] x x' → fa [4] A A' → nx_is x' A' (out ++ te_pc (ab_f r) i m) → Q (.inl none) M') →
    mm_Go l sc Y_Mo_putLess 0 0 M [some (.ref 54), some (.int x1), some (.int (nI en)), some (.int (nI i))] [] 8 Q := by
  intro m
  induction m with
  | zero =>
    intro i M x A out h hR hn hm hi hno hQ
    have h4 := hR.2.1
    refine mg_run 2 rfl ?_
    refine mg_ge rfl (by omega) (by omega) (fun _ => ?_) (fun h => absurd h (by omega))
    refine mg_vr rfl rfl rfl rfl ?_
    exact hQ M x A h (fx.rf _ _) (fa.rf _ _) (by rw [te_pc, List.append_nil]; exact hn)
  | succ m ih =>
    intro i M x A out h hR hn hm hi hno hQ
    have h4 := hR.2.1
    have hvi := hv i
    have hzi := hz i (by omega)
    have hni := hno i (Nat.le_refl _) (by omega)
    have fin : ∀ v, ab_f r i = [v] → ∀ M2 x2 A2, mo_is M0 M2 x2 A2 → fx [10, 11] x x2 → fa [4] A A2 → nx_is x2 A2 (out ++ [v]) →
        mm_Go l sc Y_Mo_putLess 0 0 M2 [some (.ref 54), some (.int x1), some (.int (nI en)), some (.int (nI i))] [] 46 Q := by
      intro v ev M2 x2 A2 p1 p2 p3 p4
      refine mg_incN rfl rfl rfl ?_
      refine mg_run 1 rfl ?_
      refine ih (i + 1) M2 x2 A2 _ p1 (hR.fr p2 p3 (by decide) (by decide)) p4 (by omega) (by omega) (fun j j1 j2 => hno j (by omega) j2) (fun M' x' A' q1 q2 q3 q4 => hQ M' x' A' q1 (p2.tr q2) (p3.tr q3) ?_)
      rw [te_pc, ev, ← List.append_assoc]
      exact q4
    refine mg_run 2 rfl ?_
    refine mg_ge rfl (by omega) (by omega) (fun h => absurd h (by omega)) (fun hlt => ?_)
    refine mg_run 2 rfl ?_
    refine mg_get rfl rfl h.2.1 rfl ?_
    refine mg_run 1 rfl ?_
    refine mr_ild 3 rfl h (by decide) (show i < 2001 by omega) ?_
    rw [hR.2.2 i (by omega)]
    refine mg_callS [.int (xc (r.getD i 0))] rfl rfl rfl rfl rfl rfl (c_Mo_isIndex (fun e => ?_) (fun e => ?_))
    · have c1 := (ix_iff hvi hzi).mp e
      refine mg_zeq rfl (by decide) (fun h => absurd h (by decide)) (fun _ => ?_)
      refine mg_run 1 rfl ?_
      refine mg_get rfl rfl h.2.1 rfl ?_
      refine mg_run 1 rfl ?_
      refine mr_ild 3 rfl h (by decide) (show i < 2001 by omega) ?_
      rw [hR.2.2 i (by omega), xc_ix c1]
      refine mg_run 1 rfl ?_
      refine mg_subN rfl (by omega) ?_
      have e2 : nI (r.getD i 0 - 1000 - 1) = xc (r.getD i 0 - 1) := by
        rw [xc_ix (by omega), show r.getD i 0 - 1 - 1000 = r.getD i 0 - 1000 - 1 by omega]
      rw [e2]
      refine mg_run 1 rfl ?_
      refine mg_callV [.int (xc (r.getD i 0 - 1))] rfl rfl rfl h.2.1 rfl rfl rfl rfl (c_Mo_put h hn (fun M2 x2 A2 p1 p2 p3 p4 => fin _ ?_ M2 x2 A2 p1 p2 p3 p4))
      unfold ab_f
      rw [if_neg (by omega)]
    · have c1 : ¬ 1000 ≤ r.getD i 0 := fun h9 => e ((ix_iff hvi hzi).mpr h9)
      refine mg_zeq rfl (by decide) (fun _ => ?_) (fun h => absurd h (by decide))
      refine mg_run 1 rfl ?_
      refine mg_get rfl rfl h.2.1 rfl ?_
      refine mg_run 1 rfl ?_
      refine mr_ild 3 rfl h (by decide) (show i < 2001 by omega) ?_
      rw [hR.2.2 i (by omega)]
      refine mg_callV [.int (xc (r.getD i 0))] rfl rfl rfl h.2.1 rfl rfl rfl rfl (c_Mo_put h hn (fun M2 x2 A2 p1 p2 p3 p4 => fin _ ?_ M2 x2 A2 p1 p2 p3 p4))
      unfold ab_f
      rw [if_pos (by omega)]
theorem c_Mo_putLess (hv : ∀ i, r.getD i 0 < 10000) (hz : ∀ i, i < r.length → ¬ r.getD i 0 = 0) (h : mo_is M0 M x A) (hR : ro_is x A r) (hx : nx_is x A out) {s : Nat} (hn : te_nd (r.drop s) 1 = 0) (hu : te_u r (te_en r s - s) s = 0)
    (hQ : ∀ M' x' A', mo_is M0 M' x' A' → fx [10, 11] x x' → fa [4] A A' → nx_is x' A' (out ++ ab_o r s (te_en r s)) → Q (.inl none) M') : mm_Ct l sc Y_Mo_putLess M [.ref 54, .int (nI s)] Q := by
  have h1 := cl_len hn
  have h2 := te_en_ge r s
  refine mm_by k_Mo_putLess w_Mo_putLess rfl rfl ?_
  refine mg_run 2 rfl ?_
  refine mg_callV [.int (nI s)] rfl rfl rfl h.2.1 rfl rfl rfl rfl (c_Mo_behind h hR hv hn ?_)
  refine mg_run 3 rfl ?_
  exact lp_Mo_putLess hv hz (te_en_le (by omega)) _ s M x A out h hR hx rfl (te_en_ge r s) (fun j j1 j2 => te_u_no _ _ hu j j1 (by omega)) hQ
theorem c_Mo_copy (h : md_is M0 M sl tp pl o th) {a b : Nat} (ha : a < 12) (hb : b < 12) (hQ : ∀ M', md_is M0 M' (sl_up sl b (sl a)) tp pl o 0 → Q (.inl none) M') : mm_Ct l sc Y_Mo_copy M [.ref 54, .int (nI a), .int (nI b)] Q := by
  obtain ⟨x, A, h1, h2, h3, h4, h5, h6⟩ := h
  refine mm_by k_Mo_copy w_Mo_copy rfl rfl ?_
  refine mg_run 2 rfl ?_
  refine mg_callS [.int (nI a)] rfl rfl rfl rfl rfl rfl (c_Mo_isSlot (fun _ => ?_) (fun e => absurd e (no_nI ha)))
  refine mg_zeq rfl (by decide) (fun h => absurd h (by decide)) (fun _ => ?_)
  refine mg_run 1 rfl ?_
  refine mg_callS [.int (nI b)] rfl rfl rfl rfl rfl rfl (c_Mo_isSlot (fun _ => ?_) (fun e => absurd e (no_nI hb)))
  refine mg_zne rfl (by decide) (fun _ => ?_) (fun h => absurd h (by decide))
  refine mg_run 2 rfl ?_
  refine mg_callV [.int (nI 0), .int (nI 0)] rfl rfl rfl h1.2.1 rfl rfl rfl rfl (c_Mo_throwing h1 (a := 0) (b := 0) (by decide) (by decide) (fun _ _ M1 q1 => ?_) (fun h => absurd h (by decide)) (fun _ h => absurd h (by decide)))
  refine mg_zeq rfl (by decide) (fun _ => ?_) (fun h => absurd h (by decide))
  refine mg_run 2 rfl ?_
  refine mg_callV [.int (nI a)] rfl rfl rfl q1.2.1 rfl rfl rfl rfl (c_Mo_load ha q1 h2 (fun M2 x2 A2 b1 b2 b3 b4 => ?_))
  refine mg_run 2 rfl ?_
  refine mg_callV [.int (nI b)] rfl rfl rfl b1.2.1 rfl rfl rfl rfl (c_Mo_store hb b1 b4 (h2.fr b3 (by decide) (by decide)) (fun M4 A4 d1 d2 d3 => ?_))
  refine mg_vr rfl rfl rfl rfl (hQ M4 ?_)
  have F : fx [0, 8] x x2 := (fx.up (by decide) _ _).tr (b2.wk (by decide))
  have G : fa [1, 2, 3] A A4 := (b3.wk (by decide)).tr (d2.wk (by decide))
  exact md_fr h3 h4 d1 d3 F G (by decide) (by decide) (by decide) (by rw [F 4 (by decide)]; exact h5) (by rw [b2 0 (by decide), pk_us])
end
