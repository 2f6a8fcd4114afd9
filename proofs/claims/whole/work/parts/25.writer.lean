/-! A writer that stops being right when too much has been written; pieces one behind another. -/
def wr (b : List Nat × Nat) (out : List Nat) : Prop := (out.length ≤ 2000 ∧ b = (out, 0)) ∨ (2000 < out.length ∧ b.2 = 1)
theorem wr0 : wr ([], 0) [] := Or.inl ⟨Nat.zero_le _, rfl⟩
theorem wr.add {b : List Nat × Nat} {out : List Nat} (h : wr b out) (v : Nat) : wr (te_add b v) (out ++ [v]) := by
  have hl : (out ++ [v]).length = out.length + 1 := by simp
  rcases h with ⟨h1, rfl⟩ | ⟨h1, h2⟩
  · by_cases hc : out.length < 2000
    · exact Or.inl ⟨by omega, if_pos hc⟩
    · refine Or.inr ⟨by omega, ?_⟩
      have e : te_add (out, 0) v = (out, 1) := if_neg hc
      rw [e]
  · refine Or.inr ⟨by omega, ?_⟩
    unfold te_add
    split
    · exact h2
    · rfl
theorem wr.adds {b : List Nat × Nat} {out : List Nat} (h : wr b out) (p : List Nat) : wr (te_adds b p) (out ++ p) := by
  have hl : (out ++ p).length = out.length + p.length := by simp
  rcases h with ⟨h1, rfl⟩ | ⟨h1, h2⟩
  · by_cases hc : out.length + p.length ≤ 2000
    · exact Or.inl ⟨by omega, if_pos hc⟩
    · refine Or.inr ⟨by omega, ?_⟩
      have e : te_adds (out, 0) p = (out, 1) := if_neg hc
      rw [e]
  · refine Or.inr ⟨by omega, ?_⟩
    unfold te_adds
    split
    · exact h2
    · rfl
/-- once too great, always -/
theorem wr.more {b : List Nat × Nat} {out : List Nat} (h : wr b out) (h1 : 0 < b.2) (p : List Nat) : wr b (out ++ p) := by
  rcases h with ⟨h2, rfl⟩ | ⟨h2, h3⟩
  · exact absurd h1 (by simp)
  · exact Or.inr ⟨by rw [List.length_append]; omega, h3⟩
theorem wr.ok {b : List Nat × Nat} {out : List Nat} (h : wr b out) (h1 : b.2 = 0) : out.length ≤ 2000 ∧ b = (out, 0) := by
  rcases h with h2 | ⟨h2, h3⟩
  · exact h2
  · omega
theorem wr.not {b : List Nat × Nat} {out : List Nat} (h : wr b out) (h1 : 0 < b.2) : 2000 < out.length := by
  rcases h with ⟨h2, rfl⟩ | ⟨h2, h3⟩
  · exact absurd h1 (by simp)
  · exact h2
/-- the pieces of n places from s on -/
def te_pc (f : Nat → List Nat) : Nat → Nat → List Nat
  | _, 0 => []
  | s, n + 1 => f s ++ te_pc f (s + 1) n
/-! the reducer's cells -/
def re_is (M : mm_M) (a b o : Nat) (dep : Nat → Int32) : Prop := M[39]? = some (.inr (4, [.ref 40, .ref a, .ref b, .int (nI o)])) ∧ de_is M 40 dep ∧ ((a = 43 ∧ b = 45) ∨ (a = 45 ∧ b = 43))
theorem re_sep {a b : Nat} (h : (a = 43 ∧ b = 45) ∨ (a = 45 ∧ b = 43)) : (¬ te_P b 39 ∧ ¬ te_P b 40 ∧ ¬ te_P b (40 + 1) ∧ ¬ te_P b (40 + 2)) ∧ te_ap b a ∧ te_ap a b ∧ (¬ te_P a 40 ∧ ¬ te_P a (40 + 1) ∧ ¬ te_P a (40 + 2)) ∧ (¬ de_P 40 39 ∧ ¬ de_P 40 a ∧ ¬ de_P 40 (a + 1) ∧ ¬ de_P 40 b ∧ ¬ de_P 40 (b + 1)) ∧ ¬ te_P a 39 := by
  unfold te_ap te_P de_P
  rcases h with ⟨rfl, rfl⟩ | ⟨rfl, rfl⟩ <;> decide
theorem re_is.keep {M M' : mm_M} {a b o : Nat} {dep : Nat → Int32} (h : re_is M a b o dep) (hon : mm_on (te_P b) M M') : re_is M' a b o dep := by
  obtain ⟨h1, h2, h3⟩ := h
  obtain ⟨⟨s1, s2, s3, s4⟩, -⟩ := re_sep h3
  exact ⟨by rw [hon 39 s1]; exact h1, h2.keep hon s2 s3 s4, h3⟩
