/-! What stays: cells outside P are as they were. -/
def mm_on (P : Nat → Prop) (M M' : mm_M) : Prop := ∀ i, ¬ P i → M'[i]? = M[i]?
theorem mm_on.rf (P : Nat → Prop) (M : mm_M) : mm_on P M M := fun _ _ => rfl
theorem mm_on.tr {P : Nat → Prop} {M M1 M2 : mm_M} (h1 : mm_on P M M1) (h2 : mm_on P M1 M2) : mm_on P M M2 := fun i hi => (h2 i hi).trans (h1 i hi)
theorem mm_on.wk {P P' : Nat → Prop} {M M1 : mm_M} (h : mm_on P M M1) (hp : ∀ i, P i → P' i) : mm_on P' M M1 := fun i hi => h i (fun h9 => hi (hp i h9))
theorem mm_on.set {P : Nat → Prop} (M : mm_M) {a : Nat} (e : va_E) (ha : P a) : mm_on P M (M.set a e) := fun i hi => by
  rw [List.getElem?_set_ne]
  intro h9
  subst h9
  exact hi ha
theorem mm_at_set {M : mm_M} {a : Nat} {e0 : va_E} (e : va_E) (h : M[a]? = some e0) : (M.set a e)[a]? = some e := by
  rw [List.getElem?_set_self (List.getElem?_eq_some_iff.mp h).1]
theorem mm_at_ne {M : mm_M} {a b : Nat} {e : va_E} {o : Option va_E} (hab : ¬ a = b) (h : M[b]? = o) : (M.set a e)[b]? = o := by
  rw [List.getElem?_set_ne hab]; exact h
/-- a Term at t, its codes at t + 1: a row, and whether it was too great -/
def te_is (M : mm_M) (t : Nat) (r : List Nat) (g : Nat) : Prop := ∃ f : Nat → Int32, M[t]? = some (.inr (6, [.ref (t + 1), .int (nI r.length), .int (nI g)])) ∧ M[t + 1]? = some (.inl (0, 2000, .inl f)) ∧ (∀ i, i < r.length → f i = nI (r.getD i 0)) ∧ r.length ≤ 2000 ∧ g ≤ 1
def te_P (t i : Nat) : Prop := i = t ∨ i = t + 1
theorem te_is.keep {P : Nat → Prop} {M M' : mm_M} {t g : Nat} {r : List Nat} (h : te_is M t r g) (hon : mm_on P M M') (h1 : ¬ P t) (h2 : ¬ P (t + 1)) : te_is M' t r g := by
  obtain ⟨f, a1, a2, a3, a4, a5⟩ := h
  exact ⟨f, by rw [hon t h1]; exact a1, by rw [hon (t + 1) h2]; exact a2, a3, a4, a5⟩
theorem te_is.len {M : mm_M} {t g : Nat} {r : List Nat} (h : te_is M t r g) : r.length ≤ 2000 := by
  obtain ⟨f, a1, a2, a3, a4, a5⟩ := h
  exact a4
/-- a writer: what it holds, and whether something was lost -/
def te_add (b : List Nat × Nat) (v : Nat) : List Nat × Nat := if b.1.length < 2000 then (b.1 ++ [v], b.2) else (b.1, 1)
def te_adds (b : List Nat × Nat) (p : List Nat) : List Nat × Nat := if b.1.length + p.length ≤ 2000 then (b.1 ++ p, b.2) else (b.1, 1)
