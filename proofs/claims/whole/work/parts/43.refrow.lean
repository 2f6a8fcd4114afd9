/-! The reference: rows, told by the class's codes. -/
/-- the reference's code of a class's code -/
def xc (c : Nat) : Int32 := if c = 64 then -1 else if c = 92 then -2 else if 1000 ≤ c then nI (c - 1000) else if c = 83 then nI 20001 else if c = 75 then nI 20002 else if c = 73 then nI 20003 else if c < 3 then nI (9999 + c) else nI (10000 + c)
def ro_is (x : Nat → Int32) (A : Nat → Nat → Int32) (r : List Nat) : Prop := x 8 = nI r.length ∧ r.length ≤ 2000 ∧ ∀ i, i < r.length → A 3 i = xc (r.getD i 0)
def nx_is (x : Nat → Int32) (A : Nat → Nat → Int32) (out : List Nat) : Prop := ∃ b : List Nat × Nat, wr b out ∧ b.1.length ≤ 2000 ∧ b.2 ≤ 1 ∧ x 10 = nI b.1.length ∧ x 11 = nI b.2 ∧ ∀ i, i < b.1.length → A 4 i = xc (b.1.getD i 0)
def st_is (A : Nat → Nat → Int32) (sl : Nat → List Nat) : Prop := ∀ s, s < 12 → (sl s).length ≤ 2000 ∧ A 2 s = nI (sl s).length ∧ ∀ i, i < (sl s).length → A 1 (2000 * s + i) = xc ((sl s).getD i 0)
def tp_is (x : Nat → Int32) (A : Nat → Nat → Int32) (tp : List Nat) : Prop := x 2 = nI tp.length ∧ tp.length ≤ 400 ∧ ∀ i, i < tp.length → A 0 i = nI (tp.getD i 0)
def fx (ls : List Nat) (x x' : Nat → Int32) : Prop := ∀ j, j ∉ ls → x' j = x j
def fa (ls : List Nat) (A A' : Nat → Nat → Int32) : Prop := ∀ j, j ∉ ls → A' j = A j
theorem fx.rf (ls : List Nat) (x : Nat → Int32) : fx ls x x := fun _ _ => rfl
theorem fa.rf (ls : List Nat) (A : Nat → Nat → Int32) : fa ls A A := fun _ _ => rfl
theorem fx.tr {ls : List Nat} {x y z : Nat → Int32} (h1 : fx ls x y) (h2 : fx ls y z) : fx ls x z := fun j hj => (h2 j hj).trans (h1 j hj)
theorem fa.tr {ls : List Nat} {x y z : Nat → Nat → Int32} (h1 : fa ls x y) (h2 : fa ls y z) : fa ls x z := fun j hj => (h2 j hj).trans (h1 j hj)
theorem fx.up {ls : List Nat} {k : Nat} (h : k ∈ ls) (x : Nat → Int32) (v : Int32) : fx ls x (upd x k v) := fun j hj => pk_un (fun e => hj (e ▸ h))
theorem fa.up {ls : List Nat} {k : Nat} (h : k ∈ ls) (A : Nat → Nat → Int32) (f : Nat → Int32) : fa ls A (aup A k f) := fun j hj => aup_n (fun e => hj (e ▸ h))
theorem fx.wk {ls ls' : List Nat} {x y : Nat → Int32} (h : fx ls x y) (hs : ∀ j ∈ ls, j ∈ ls') : fx ls' x y := fun j hj => h j (fun h9 => hj (hs j h9))
theorem fa.wk {ls ls' : List Nat} {x y : Nat → Nat → Int32} (h : fa ls x y) (hs : ∀ j ∈ ls, j ∈ ls') : fa ls' x y := fun j hj => h j (fun h9 => hj (hs j h9))
section
variable {l : Launch} {sc : Nat × (Nat → Int32)} {M0 M : mm_M} {Q : mm_O → mm_M → Prop} {x : Nat → Int32} {A : Nat → Nat → Int32} {r out : List Nat} {sl : Nat → List Nat}
theorem ro_is.fr {x' : Nat → Int32} {A' : Nat → Nat → Int32} {ls la : List Nat} (h : ro_is x A r) (h1 : fx ls x x') (h2 : fa la A A') (n1 : 8 ∉ ls) (n2 : 3 ∉ la) : ro_is x' A' r := ⟨(h1 8 n1).trans h.1, h.2.1, fun i hi => by rw [h2 3 n2]; exact h.2.2 i hi⟩
theorem nx_is.fr {x' : Nat → Int32} {A' : Nat → Nat → Int32} {ls la : List Nat} (h : nx_is x A out) (h1 : fx ls x x') (h2 : fa la A A') (n1 : 10 ∉ ls) (n3 : 11 ∉ ls) (n2 : 4 ∉ la) : nx_is x' A' out := by
  obtain ⟨b, b1, b2, b3, b4, b5, b6⟩ := h
  exact ⟨b, b1, b2, b3, (h1 10 n1).trans b4, (h1 11 n3).trans b5, fun i hi => by rw [h2 4 n2]; exact b6 i hi⟩
theorem st_is.fr {A' : Nat → Nat → Int32} {la : List Nat} (h : st_is A sl) (h2 : fa la A A') (n1 : 1 ∉ la) (n2 : 2 ∉ la) : st_is A' sl := fun s hs => by
  obtain ⟨a1, a2, a3⟩ := h s hs
  exact ⟨a1, by rw [h2 2 n2]; exact a2, fun i hi => by rw [h2 1 n1]; exact a3 i hi⟩
theorem tp_is.fr {x' : Nat → Int32} {A' : Nat → Nat → Int32} {ls la : List Nat} {tp : List Nat} (h : tp_is x A tp) (h1 : fx ls x x') (h2 : fa la A A') (n1 : 2 ∉ ls) (n2 : 0 ∉ la) : tp_is x' A' tp := ⟨(h1 2 n1).trans h.1, h.2.1, fun i hi => by rw [h2 0 n2]; exact h.2.2 i hi⟩
theorem c_Mo_begin (h : mo_is M0 M x A) (hQ : ∀ M' x', mo_is M0 M' x' A → fx [10, 11] x x' → nx_is x' A [] → Q (.inl none) M') : mm_Ct l sc Y_Mo_begin M [.ref 54] Q := by
  refine mm_by k_Mo_begin w_Mo_begin rfl rfl ?_
  refine mg_run 2 rfl ?_
  refine mr_put rfl rfl h rfl rfl rfl (fun M1 q1 => ?_)
  refine mg_run 2 rfl ?_
  refine mr_put rfl rfl q1 rfl rfl rfl (fun M2 q2 => ?_)
  refine mg_vr rfl rfl rfl rfl ?_
  exact hQ M2 _ q2 ((fx.up (by decide) _ _).tr (fx.up (by decide) _ _)) ⟨([], 0), wr0, Nat.zero_le _, Nat.zero_le _, rfl, rfl, fun i hi => absurd hi (Nat.not_lt_zero i)⟩
theorem c_Mo_put (h : mo_is M0 M x A) (hn : nx_is x A out) {v : Nat} (hQ : ∀ M' x' A', mo_is M0 M' x' A' → fx [10, 11] x x' → fa [4] A A' → nx_is x' A' (out ++ [v]) → Q (.inl none) M') : mm_Ct l sc Y_Mo_put M [.ref 54, .int (xc v)] Q := by
  obtain ⟨b, hw, hl, hg, e1, e2, hc⟩ := hn
  have hol : (out ++ [v]).length = out.length + 1 := by simp
  refine mm_by k_Mo_put w_Mo_put rfl rfl ?_
  refine mg_run 2 rfl ?_
  refine mg_get rfl rfl h.2.1 rfl ?_
  rw [e2]
  refine mg_zne rfl (by omega) (fun g => ?_) (fun g => ?_)
  · refine mg_run 2 rfl ?_
    refine mr_put rfl rfl h rfl rfl rfl (fun M1 q1 => ?_)
    refine mg_run 1 rfl ?_
    refine mg_get rfl rfl q1.2.1 rfl ?_
    rw [pk_us]
    refine mg_zeq rfl (by decide) (fun h => absurd h (by decide)) (fun _ => ?_)
    refine mg_vr rfl rfl rfl rfl ?_
    have h2 := hw.not g
    exact hQ M1 _ A q1 (fx.up (by decide) _ _) (fa.rf _ _) ⟨(b.1, 1), Or.inr ⟨by omega, rfl⟩, hl, Nat.le_refl _, (pk_un (by decide)).trans e1, pk_us, hc⟩
  · refine mg_run 1 rfl ?_
    refine mg_get rfl rfl h.2.1 rfl ?_
    rw [e1]
    refine mg_run 1 rfl ?_
    refine mg_ne rfl (by omega) (by decide) (fun c => ?_) (fun c => ?_)
    · refine mg_run 1 rfl ?_
      refine mr_put rfl rfl h rfl rfl rfl (fun M1 q1 => ?_)
      refine mg_run 1 rfl ?_
      refine mg_get rfl rfl q1.2.1 rfl ?_
      rw [pk_us]
      refine mg_zeq rfl (by decide) (fun _ => ?_) (fun h => absurd h (by decide))
      refine mg_run 1 rfl ?_
      refine mg_get rfl rfl q1.2.1 rfl ?_
      refine mg_run 1 rfl ?_
      refine mg_get rfl rfl q1.2.1 rfl ?_
      rw [pk_un (show (10 : Nat) ≠ 11 by decide), e1]
      refine mg_run 1 rfl ?_
      refine mr_ist 4 rfl q1 (by decide) (show b.1.length < 2001 by omega) (fun M2 q2 => ?_)
      refine mg_run 2 rfl ?_
      refine mg_get rfl rfl q2.2.1 rfl ?_
      rw [pk_un (show (10 : Nat) ≠ 11 by decide), e1]
      refine mg_run 1 rfl ?_
      refine mg_addN rfl ?_
      refine mr_put rfl rfl q2 rfl rfl rfl (fun M3 q3 => ?_)
      refine mg_vr rfl rfl rfl rfl ?_
      obtain ⟨o1, o2⟩ := hw.ok g
      subst o2
      refine hQ M3 _ _ q3 ((fx.up (by decide) _ _).tr (fx.up (by decide) _ _)) (fa.up (by decide) _ _) ⟨(out ++ [v], 0), Or.inl ⟨?_, rfl⟩, ?_, Nat.zero_le _, ?_, ?_, ?_⟩
      · have c' : ¬ out.length = 2000 := c
        omega
      · have c' : ¬ out.length = 2000 := c
        show (out ++ [v]).length ≤ 2000
        omega
      · show upd (upd x 11 (nI 0)) 10 (nI (out.length + 1)) 10 = nI (out ++ [v]).length
        rw [pk_us, hol]
      · show upd (upd x 11 (nI 0)) 10 (nI (out.length + 1)) 11 = nI 0
        rw [pk_un (by decide), pk_us]
      · intro i hi
        have hi : i < (out ++ [v]).length := hi
        show aup A 4 (upd (A 4) out.length (xc v)) 4 i = xc ((out ++ [v]).getD i 0)
        rw [aup_s]
        by_cases ei : i = out.length
        · subst ei
          rw [pk_us]
          simp
        · rw [pk_un ei, hc i (by show i < out.length; omega)]
          have : i < out.length := by omega
          simp [List.getElem?_append_left this]
    · refine mg_run 2 rfl ?_
      refine mr_put rfl rfl h rfl rfl rfl (fun M1 q1 => ?_)
      refine mg_run 1 rfl ?_
      refine mg_get rfl rfl q1.2.1 rfl ?_
      rw [pk_us]
      refine mg_zeq rfl (by decide) (fun h => absurd h (by decide)) (fun _ => ?_)
      refine mg_vr rfl rfl rfl rfl ?_
      obtain ⟨o1, o2⟩ := hw.ok g
      subst o2
      have c' : out.length = 2000 := c
      exact hQ M1 _ A q1 (fx.up (by decide) _ _) (fa.rf _ _) ⟨(out, 1), Or.inr ⟨by omega, rfl⟩, hl, Nat.le_refl _, (pk_un (by decide)).trans e1, pk_us, hc⟩
theorem lp_Mo_load {s : Nat} (hs : s < 12) (hr : r.length ≤ 2000) : ∀ m i (M : mm_M) (A : Nat → Nat → Int32), mo_is M0 M x A → x 8 = nI r.length → (∀ j, j < r.length → A 1 (2000 * s + j) = xc (r.getD j 0)) → (∀ j, j < i → A 3 j = xc (r.getD j 0)) → r.length - i = m → i ≤ r.length →
    (∀ M' A', mo_is M0 M' x A' → fa [3] A A' → (∀ j, j < r.length → A' 3 j = xc (r.getD j 0)) → Q (.inl none) M') →
    mm_Go l sc Y_Mo_load 0 0 M [some (.ref 54), some (.int (nI s)), some (.int (nI i))] [] 12 Q := by
  intro m
  induction m with
  | zero =>
    intro i M A h e8 hT hR hm hi hQ
    refine mg_run 2 rfl ?_
    refine mg_get rfl rfl h.2.1 rfl ?_
    rw [e8]
    refine mg_ge rfl (by omega) (by omega) (fun _ => ?_) (fun h => absurd h (by omega))
    refine mg_vr rfl rfl rfl rfl ?_
    have e : i = r.length := by omega
    subst e
    exact hQ M A h (fa.rf _ _) hR
  | succ m ih =>
    intro i M A h e8 hT hR hm hi hQ
    refine mg_run 2 rfl ?_
    refine mg_get rfl rfl h.2.1 rfl ?_
    rw [e8]
    refine mg_ge rfl (by omega) (by omega) (fun h => absurd h (by omega)) (fun hlt => ?_)
    refine mg_run 1 rfl ?_
    refine mg_get rfl rfl h.2.1 rfl ?_
    refine mg_run 2 rfl ?_
    refine mg_get rfl rfl h.2.1 rfl ?_
    refine mg_run 2 rfl ?_
    refine mg_mulN rfl ?_
    refine mg_run 1 rfl ?_
    refine mg_addN rfl ?_
    refine mr_ild 1 rfl h (by decide) (show 2000 * s + i < 24000 by omega) ?_
    rw [hT i hlt]
    refine mr_ist 3 rfl h (by decide) (show i < 2001 by omega) (fun M1 q1 => ?_)
    refine mg_incN rfl rfl rfl ?_
    refine mg_run 1 rfl ?_
    refine ih (i + 1) M1 _ q1 e8 (fun j hj => ?_) (fun j hj => ?_) (by omega) (by omega) (fun M' A' p1 p2 p3 => hQ M' A' p1 ((fa.up (by decide) _ _).tr p2) p3)
    · rw [aup_n (show (1 : Nat) ≠ 3 by decide)]
      exact hT j hj
    · rw [aup_s]
      by_cases ej : j = i
      · subst ej
        exact pk_us
      · rw [pk_un ej]
        exact hR j (by omega)
theorem c_Mo_load {s : Nat} (hs : s < 12) (h : mo_is M0 M x A) (hS : st_is A sl) (hQ : ∀ M' x' A', mo_is M0 M' x' A' → fx [8] x x' → fa [3] A A' → ro_is x' A' (sl s) → Q (.inl none) M') : mm_Ct l sc Y_Mo_load M [.ref 54, .int (nI s)] Q := by
  obtain ⟨a1, a2, a3⟩ := hS s hs
  refine mm_by k_Mo_load w_Mo_load rfl rfl ?_
  refine mg_run 2 rfl ?_
  refine mg_get rfl rfl h.2.1 rfl ?_
  refine mg_run 1 rfl ?_
  refine mr_ild 2 rfl h (by decide) (show s < 12 from hs) ?_
  rw [a2]
  refine mr_put rfl rfl h rfl rfl rfl (fun M1 q1 => ?_)
  refine mg_run 2 rfl ?_
  exact lp_Mo_load hs a1 _ 0 M1 A q1 pk_us a3 (fun j hj => absurd hj (Nat.not_lt_zero j)) rfl (Nat.zero_le _) (fun M' A' p1 p2 p3 => hQ M' _ A' p1 (fx.up (by decide) _ _) p2 ⟨pk_us, a1, p3⟩)
theorem lp_Mo_store {s : Nat} (hs : s < 12) (hr : r.length ≤ 2000) : ∀ m i (M : mm_M) (A : Nat → Nat → Int32), mo_is M0 M x A → x 8 = nI r.length → (∀ j, j < r.length → A 3 j = xc (r.getD j 0)) → (∀ j, j < i → A 1 (2000 * s + j) = xc (r.getD j 0)) → r.length - i = m → i ≤ r.length →
    (∀ M' A', mo_is M0 M' x A' → fa [1] A A' → (∀ j, j < r.length → A' 1 (2000 * s + j) = xc (r.getD j 0)) → (∀ j, (j < 2000 * s ∨ 2000 * s + 2000 ≤ j) → A' 1 j = A 1 j) → Q (.inl none) M') →
    mm_Go l sc Y_Mo_store 0 0 M [some (.ref 54), some (.int (nI s)), some (.int (nI i))] [] 12 Q := by
  intro m
  induction m with
  | zero =>
    intro i M A h e8 hT hR hm hi hQ
    refine mg_run 2 rfl ?_
    refine mg_get rfl rfl h.2.1 rfl ?_
    rw [e8]
    refine mg_ge rfl (by omega) (by omega) (fun _ => ?_) (fun h => absurd h (by omega))
    refine mg_vr rfl rfl rfl rfl ?_
    have e : i = r.length := by omega
    subst e
    exact hQ M A h (fa.rf _ _) hR (fun _ _ => rfl)
  | succ m ih =>
    intro i M A h e8 hT hR hm hi hQ
    refine mg_run 2 rfl ?_
    refine mg_get rfl rfl h.2.1 rfl ?_
    rw [e8]
    refine mg_ge rfl (by omega) (by omega) (fun h => absurd h (by omega)) (fun hlt => ?_)
    refine mg_run 1 rfl ?_
    refine mg_get rfl rfl h.2.1 rfl ?_
    refine mg_run 2 rfl ?_
    refine mg_mulN rfl ?_
    refine mg_run 1 rfl ?_
    refine mg_addN rfl ?_
    refine mg_run 1 rfl ?_
    refine mg_get rfl rfl h.2.1 rfl ?_
    refine mg_run 1 rfl ?_
    refine mr_ild 3 rfl h (by decide) (show i < 2001 by omega) ?_
    rw [hT i hlt]
    refine mr_ist 1 rfl h (by decide) (show 2000 * s + i < 24000 by omega) (fun M1 q1 => ?_)
    refine mg_incN rfl rfl rfl ?_
    refine mg_run 1 rfl ?_
    refine ih (i + 1) M1 _ q1 e8 (fun j hj => ?_) (fun j hj => ?_) (by omega) (by omega) (fun M' A' p1 p2 p3 p4 => hQ M' A' p1 ((fa.up (by decide) _ _).tr p2) p3 (fun j hj => ?_))
    · rw [aup_n (show (3 : Nat) ≠ 1 by decide)]
      exact hT j hj
    · rw [aup_s]
      by_cases ej : j = i
      · subst ej
        exact pk_us
      · rw [pk_un (by omega)]
        exact hR j (by omega)
    · rw [p4 j hj, aup_s]
      exact pk_un (by omega)
theorem c_Mo_store {s : Nat} (hs : s < 12) (h : mo_is M0 M x A) (hR : ro_is x A r) (hS : st_is A sl) (hQ : ∀ M' A', mo_is M0 M' x A' → fa [1, 2] A A' → st_is A' (sl_up sl s r) → Q (.inl none) M') : mm_Ct l sc Y_Mo_store M [.ref 54, .int (nI s)] Q := by
  obtain ⟨r1, r2, r3⟩ := hR
  refine mm_by k_Mo_store w_Mo_store rfl rfl ?_
  refine mg_run 1 rfl ?_
  refine mg_get rfl rfl h.2.1 rfl ?_
  refine mg_run 2 rfl ?_
  refine mg_get rfl rfl h.2.1 rfl ?_
  rw [r1]
  refine mr_ist 2 rfl h (by decide) (show s < 12 from hs) (fun M1 q1 => ?_)
  refine mg_run 2 rfl ?_
  refine lp_Mo_store hs r2 _ 0 M1 _ q1 r1 (fun j hj => ?_) (fun j hj => absurd hj (Nat.not_lt_zero j)) rfl (Nat.zero_le _) (fun M' A' p1 p2 p3 p4 => hQ M' A' p1 ((fa.up (by decide) _ _).tr (p2.wk (by decide))) (fun s2 hs2 => ?_))
  · rw [aup_n (show (3 : Nat) ≠ 2 by decide)]
    exact r3 j hj
  · have e2 : A' 2 = upd (A 2) s (nI r.length) := by rw [p2 2 (by decide), aup_s]
    unfold sl_up
    by_cases e : s2 = s
    · subst e
      rw [if_pos rfl, e2]
      exact ⟨r2, pk_us, p3⟩
    · rw [if_neg e, e2]
      obtain ⟨a1, a2, a3⟩ := hS s2 hs2
      refine ⟨a1, (pk_un e).trans a2, fun i hi => ?_⟩
      rw [p4 _ (by omega), aup_n (show (1 : Nat) ≠ 2 by decide)]
      exact a3 i hi
theorem lp_Mo_settle (hr : r.length ≤ 2000) : ∀ m i (M : mm_M) (A : Nat → Nat → Int32), mo_is M0 M x A → x 8 = nI r.length → (∀ j, j < r.length → A 4 j = xc (r.getD j 0)) → (∀ j, j < i → A 3 j = xc (r.getD j 0)) → r.length - i = m → i ≤ r.length →
    (∀ M' A', mo_is M0 M' x A' → fa [3] A A' → (∀ j, j < r.length → A' 3 j = xc (r.getD j 0)) → Q (.inl none) M') →
    mm_Go l sc Y_Mo_settle 0 0 M [some (.ref 54), some (.int (nI i))] [] 10 Q := by
  intro m
  induction m with
  | zero =>
    intro i M A h e8 hT hR hm hi hQ
    refine mg_run 2 rfl ?_
    refine mg_get rfl rfl h.2.1 rfl ?_
    rw [e8]
    refine mg_ge rfl (by omega) (by omega) (fun _ => ?_) (fun h => absurd h (by omega))
    refine mg_vr rfl rfl rfl rfl ?_
    have e : i = r.length := by omega
    subst e
    exact hQ M A h (fa.rf _ _) hR
  | succ m ih =>
    intro i M A h e8 hT hR hm hi hQ
    refine mg_run 2 rfl ?_
    refine mg_get rfl rfl h.2.1 rfl ?_
    rw [e8]
    refine mg_ge rfl (by omega) (by omega) (fun h => absurd h (by omega)) (fun hlt => ?_)
    refine mg_run 1 rfl ?_
    refine mg_get rfl rfl h.2.1 rfl ?_
    refine mg_run 2 rfl ?_
    refine mg_get rfl rfl h.2.1 rfl ?_
    refine mg_run 1 rfl ?_
    refine mr_ild 4 rfl h (by decide) (show i < 2001 by omega) ?_
    rw [hT i hlt]
    refine mr_ist 3 rfl h (by decide) (show i < 2001 by omega) (fun M1 q1 => ?_)
    refine mg_incN rfl rfl rfl ?_
    refine mg_run 1 rfl ?_
    refine ih (i + 1) M1 _ q1 e8 (fun j hj => ?_) (fun j hj => ?_) (by omega) (by omega) (fun M' A' p1 p2 p3 => hQ M' A' p1 ((fa.up (by decide) _ _).tr p2) p3)
    · rw [aup_n (show (4 : Nat) ≠ 3 by decide)]
      exact hT j hj
    · rw [aup_s]
      by_cases ej : j = i
      · subst ej
        exact pk_us
      · rw [pk_un ej]
        exact hR j (by omega)
theorem c_Mo_settle (h : mo_is M0 M x A) (hn : nx_is x A out) (ho : out.length ≤ 2000) (hQ : ∀ M' x' A', mo_is M0 M' x' A' → fx [8] x x' → fa [3] A A' → ro_is x' A' out → Q (.inl none) M') : mm_Ct l sc Y_Mo_settle M [.ref 54] Q := by
  obtain ⟨b, hw, hl, hg, e1, e2, hc⟩ := hn
  have hb : b = (out, 0) := by
    rcases hw with ⟨-, h9⟩ | ⟨h9, -⟩
    · exact h9
    · omega
  subst hb
  refine mm_by k_Mo_settle w_Mo_settle rfl rfl ?_
  refine mg_run 2 rfl ?_
  refine mg_get rfl rfl h.2.1 rfl ?_
  rw [e1]
  refine mr_put rfl rfl h rfl rfl rfl (fun M1 q1 => ?_)
  refine mg_run 2 rfl ?_
  exact lp_Mo_settle ho _ 0 M1 A q1 pk_us hc (fun j hj => absurd hj (Nat.not_lt_zero j)) rfl (Nat.zero_le _) (fun M' A' p1 p2 p3 => hQ M' _ A' p1 (fx.up (by decide) _ _) p2 ⟨pk_us, ho, p3⟩)
end
