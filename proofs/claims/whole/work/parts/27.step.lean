/-! The reducer: a step, and its runs. -/
theorem te_sc_le : ∀ (l : List Nat) (o : Nat), te_sc l o ≤ l.length := by
  intro l
  induction l with
  | nil => intro o; exact Nat.le_refl _
  | cons c l ih =>
    intro o
    cases o with
    | zero => exact Nat.zero_le _
    | succ o => exact Nat.succ_le_succ (ih _)
theorem te_ms_le : ∀ (l st : List Nat) (B : Nat), (∀ y ∈ st, y + l.length ≤ B) → ∀ x ∈ te_ms l st, x ≤ B := by
  intro l
  induction l with
  | nil => intro st B _ x hx; cases hx
  | cons c l ih =>
    intro st B h x hx
    cases st with
    | nil => cases hx
    | cons d st =>
      have hd := h d List.mem_cons_self
      rw [List.length_cons] at hd
      have hst : ∀ y ∈ st, y + l.length ≤ B := fun y hy => by
        have := h y (List.mem_cons_of_mem _ hy)
        rw [List.length_cons] at this
        omega
      rw [te_ms] at hx
      rcases List.mem_cons.mp hx with rfl | hx
      · omega
      · refine ih _ B (fun y hy => ?_) x hx
        split at hy
        · rcases List.mem_cons.mp hy with rfl | hy
          · omega
          · rcases List.mem_cons.mp hy with rfl | hy
            · omega
            · exact hst y hy
        · split at hy
          · rcases List.mem_cons.mp hy with rfl | hy
            · omega
            · exact hst y hy
          · exact hst y hy
/-- where the part that begins at s has ended; the part from s to e -/
def te_en (r : List Nat) (s : Nat) : Nat := s + te_sc (r.drop s) 1
def te_pt (r : List Nat) (s e : Nat) : List Nat := (r.drop s).take (e - s)
theorem te_en_le {r : List Nat} {s : Nat} (h : s ≤ r.length) : te_en r s ≤ r.length := by
  have := te_sc_le (r.drop s) 1
  rw [List.length_drop] at this
  unfold te_en
  omega
theorem te_en_ge (r : List Nat) (s : Nat) : s ≤ te_en r s := Nat.le_add_right _ _
/-- the depths in the part that begins at s -/
def te_D (r : List Nat) (s i : Nat) : Nat := (te_ms (r.drop s) [0]).getD (i - s) 0
theorem te_D_lt {r : List Nat} (h : r.length ≤ 2000) (s i : Nat) : te_D r s i < 10000 := by
  unfold te_D
  by_cases hi : i - s < (te_ms (r.drop s) [0]).length
  · have hx : (te_ms (r.drop s) [0]).getD (i - s) 0 ∈ te_ms (r.drop s) [0] := by
      simp only [List.getD, List.getElem?_eq_getElem hi, Option.getD_some]
      exact List.getElem_mem hi
    have := te_ms_le (r.drop s) [0] 2000 (fun y hy => by rw [List.mem_singleton] at hy; subst hy; rw [List.length_drop]; omega) _ hx
    omega
  · rw [te_getD (Nat.le_of_not_lt hi)]; omega
/-- .. of the body and of the argument behind it -/
def te_DD (r : List Nat) (s i : Nat) : Nat := if i < te_en r s then te_D r s i else te_D r (te_en r s) i
/-- what comes in place of the redex at i, and where the redex has ended -/
def te_out (r : List Nat) (i : Nat) : List Nat :=
  if te_rh r i = 92 then te_pc (te_sb r (te_DD r (i + 2)) (te_en r (i + 2)) (te_en r (te_en r (i + 2)) - te_en r (i + 2))) (i + 2) (te_en r (i + 2) - (i + 2))
  else if te_rh r i = 83 then [64] ++ [64] ++ te_pt r (i + 4) (te_en r (i + 4)) ++ te_pt r (te_en r (te_en r (i + 4))) (te_en r (te_en r (te_en r (i + 4)))) ++ [64] ++ te_pt r (te_en r (i + 4)) (te_en r (te_en r (te_en r (i + 4))))
  else if te_rh r i = 75 then te_pt r (i + 3) (te_en r (i + 3)) else te_pt r (i + 2) (te_en r (i + 2))
def te_end (r : List Nat) (i : Nat) : Nat :=
  if te_rh r i = 92 then te_en r (te_en r (i + 2)) else if te_rh r i = 83 then te_en r (te_en r (te_en r (i + 4))) else if te_rh r i = 75 then te_en r (te_en r (i + 3)) else te_en r (i + 2)
def te_step (r : List Nat) (i : Nat) : List Nat := r.take i ++ te_out r i ++ r.drop (te_end r i)
def re_P (b i : Nat) : Prop := te_P b i ∨ de_P 40 i
theorem te_rh_len {r : List Nat} {i : Nat} (h : ¬ te_rh r i = 0) : i < r.length ∧ i + 1 < r.length ∧ (te_rh r i = 75 → i + 2 < r.length) ∧ (te_rh r i = 83 → i + 3 < r.length) := by
  have key : ∀ j, ¬ r.getD j 0 = 0 → j < r.length := fun j hj => by
    by_cases h9 : j < r.length
    · exact h9
    · exact absurd (te_getD (Nat.le_of_not_lt h9)) hj
  unfold te_rh at h ⊢
  by_cases p0 : r.getD i 0 = 64
  · rw [if_pos p0] at h ⊢
    have k0 := key i (by omega)
    by_cases p1 : r.getD (i + 1) 0 = 92
    · rw [if_pos p1]; exact ⟨k0, key _ (by omega), fun h => absurd h (by decide), fun h => absurd h (by decide)⟩
    · rw [if_neg p1] at h ⊢
      by_cases p2 : r.getD (i + 1) 0 = 73
      · rw [if_pos p2]; exact ⟨k0, key _ (by omega), fun h => absurd h (by decide), fun h => absurd h (by decide)⟩
      · rw [if_neg p2] at h ⊢
        by_cases p3 : r.getD (i + 1) 0 = 64
        · rw [if_pos p3] at h ⊢
          have k1 := key (i + 1) (by omega)
          by_cases p4 : r.getD (i + 2) 0 = 75
          · rw [if_pos p4]; exact ⟨k0, k1, fun _ => key _ (by omega), fun h => absurd h (by decide)⟩
          · rw [if_neg p4] at h ⊢
            by_cases p5 : r.getD (i + 2) 0 = 64
            · rw [if_pos p5] at h ⊢
              by_cases p6 : r.getD (i + 3) 0 = 83
              · rw [if_pos p6]; exact ⟨k0, k1, fun h => absurd h (by decide), fun _ => key _ (by omega)⟩
              · rw [if_neg p6] at h; exact absurd rfl h
            · rw [if_neg p5] at h; exact absurd rfl h
        · rw [if_neg p3] at h; exact absurd rfl h
  · rw [if_neg p0] at h; exact absurd rfl h
section
variable {l : Launch} {sc : Nat × (Nat → Int32)} {Q : mm_O → mm_M → Prop} {a b o ga : Nat} {r : List Nat} {dep : Nat → Int32} {M : mm_M} {bf : List Nat × Nat} {out : List Nat}
theorem c_Re_writeBody (hb : ∀ i, r.getD i 0 < 10000) {s : Nat} (hs : s ≤ r.length) (hR : re_is M a b o dep) (hA : te_is M a r ga) (hB : te_is M b bf.1 bf.2) (hw : wr bf out)
    (hQ : ∀ M' bf' dep', re_is M' a b o dep' → te_is M' b bf'.1 bf'.2 → wr bf' (out ++ te_pc (te_sb r (te_DD r s) (te_en r s) (te_en r (te_en r s) - te_en r s)) s (te_en r s - s)) → mm_on (re_P b) M M' → Q (.inl (some (.int (nI (te_en r (te_en r s)))))) M') : mm_Ct l sc Y_Re_writeBody M [.ref 39, .int (nI s)] Q := by
  have h4 := hA.len
  obtain ⟨r1, r2, r3⟩ := id hR
  obtain ⟨⟨s1, s2, s3, s4⟩, s5, s6, s7, s8, s9⟩ := re_sep r3
  obtain ⟨fa, a1, a2, a3, a4, a5⟩ := id hA
  obtain ⟨w, d1, d2, d3⟩ := id r2
  have hb31 : ∀ i, r.getD i 0 < 2 ^ 31 := fun i => Nat.lt_trans (hb i) (by decide)
  refine mm_by k_Re_writeBody w_Re_writeBody rfl rfl ?_
  refine mg_run 1 rfl ?_
  refine mg_get rfl rfl r1 rfl ?_
  refine mg_run 1 rfl ?_
  refine mg_get rfl rfl r1 rfl ?_
  refine mg_run 1 rfl ?_
  refine mg_callV [.ref a, .int (nI s)] rfl rfl rfl d1 rfl rfl rfl rfl (c_De_measure r2 hA s7.1 s7.2.1 s7.2.2 hb31 hs (fun M1 dep1 p1 p2 p3 => ?_))
  have r1' : M1[39]? = _ := (p3 39 s8.1).trans r1
  have hA1 := hA.keep p3 s8.2.1 s8.2.2.1
  have hB1 := hB.keep p3 s8.2.2.2.1 s8.2.2.2.2
  obtain ⟨w1, e1, -⟩ := id p1
  refine mg_run 2 rfl ?_
  refine mg_get rfl rfl r1' rfl ?_
  refine mg_run 1 rfl ?_
  refine mg_get rfl rfl r1' rfl ?_
  refine mg_run 1 rfl ?_
  refine mg_callV [.ref a, .int (nI (te_en r s))] rfl rfl rfl e1 rfl rfl rfl rfl (c_De_measure p1 hA1 s7.1 s7.2.1 s7.2.2 hb31 (te_en_le hs) (fun M2 dep2 q1 q2 q3 => ?_))
  have r1'' : M2[39]? = _ := (q3 39 s8.1).trans r1'
  have hA2 := hA1.keep q3 s8.2.1 s8.2.2.1
  have hB2 := hB1.keep q3 s8.2.2.2.1 s8.2.2.2.2
  have hR2 : re_is M2 a b o dep2 := ⟨r1'', q1, r3⟩
  have hl1 : (te_ms (r.drop s) [0]).length = te_sc (r.drop s) 1 := te_ms_len _ _
  have hl2 : (te_ms (r.drop (te_en r s)) [0]).length = te_sc (r.drop (te_en r s)) 1 := te_ms_len _ _
  refine mg_run 3 rfl ?_
  refine lp_Re_writeBody (D := te_DD r s) hb (te_en_ge r _) (te_en_le (te_en_le hs)) _ s none none M2 bf out rfl hR2 hA2 hB2 hw (fun j h1 h2 => ?_) rfl (te_en_ge r s) (fun M' bf' k1 k2 k3 => ?_)
  · unfold te_DD
    by_cases hj : j < te_en r s
    · rw [if_pos hj]
      refine ⟨?_, te_D_lt h4 _ _⟩
      rw [q2.2 j (Or.inl hj)]
      have h9 := p2.1 (j - s) (by rw [hl1]; unfold te_en at hj; omega)
      rw [show s + (j - s) = j by omega] at h9
      exact h9
    · rw [if_neg hj]
      refine ⟨?_, te_D_lt h4 _ _⟩
      have h9 := q2.1 (j - te_en r s) (by rw [hl2]; have h8 : j < te_en r (te_en r s) := h2; unfold te_en at h8 hj ⊢; omega)
      rw [show te_en r s + (j - te_en r s) = j by omega] at h9
      exact h9
  · exact hQ M' bf' dep2 (hR2.keep k3) k1 k2 (((p3.wk (fun i h => Or.inr h)).tr (q3.wk (fun i h => Or.inr h))).tr (k3.wk (fun i h => Or.inl h)))
theorem c_Re_writeShared (hb : ∀ i, r.getD i 0 < 10000) {s : Nat} (hs : s ≤ r.length) (hR : re_is M a b o dep) (hA : te_is M a r ga) (hB : te_is M b bf.1 bf.2) (hw : wr bf out)
    (hQ : ∀ M' bf', re_is M' a b o dep → te_is M' b bf'.1 bf'.2 → wr bf' (out ++ ([64] ++ [64] ++ te_pt r s (te_en r s) ++ te_pt r (te_en r (te_en r s)) (te_en r (te_en r (te_en r s))) ++ [64] ++ te_pt r (te_en r s) (te_en r (te_en r (te_en r s))))) → mm_on (te_P b) M M' → Q (.inl (some (.int (nI (te_en r (te_en r (te_en r s))))))) M') : mm_Ct l sc Y_Re_writeShared M [.ref 39, .int (nI s)] Q := by
  have h4 := hA.len
  obtain ⟨r1, r2, r3⟩ := id hR
  obtain ⟨⟨s1, s2, s3, s4⟩, s5, s6, s7, s8, s9⟩ := re_sep r3
  obtain ⟨fa, a1, a2, a3, a4, a5⟩ := id hA
  have hb31 : ∀ i, r.getD i 0 < 2 ^ 31 := fun i => Nat.lt_trans (hb i) (by decide)
  have e1 := te_en_le hs
  have e2 := te_en_le e1
  have e3 := te_en_le e2
  have g1 := te_en_ge r s
  have g2 := te_en_ge r (te_en r s)
  have g3 := te_en_ge r (te_en r (te_en r s))
  refine mm_by k_Re_writeShared w_Re_writeShared rfl rfl ?_
  refine mg_run 1 rfl ?_
  refine mg_get rfl rfl r1 rfl ?_
  refine mg_run 1 rfl ?_
  refine mg_callV [.int (nI s)] rfl rfl rfl a1 rfl rfl rfl rfl (c_Te_endOf hA hb31 hs ?_)
  refine mg_run 2 rfl ?_
  refine mg_get rfl rfl r1 rfl ?_
  refine mg_run 1 rfl ?_
  refine mg_callV [.int (nI (te_en r s))] rfl rfl rfl a1 rfl rfl rfl rfl (c_Te_endOf hA hb31 e1 ?_)
  refine mg_run 2 rfl ?_
  refine mg_get rfl rfl r1 rfl ?_
  refine mg_run 1 rfl ?_
  refine mg_callV [.int (nI (te_en r (te_en r s)))] rfl rfl rfl a1 rfl rfl rfl rfl (c_Te_endOf hA hb31 e2 ?_)
  refine mg_run 2 rfl ?_
  refine mg_get rfl rfl r1 rfl ?_
  refine mg_run 1 rfl ?_
  obtain ⟨fb, b1, -⟩ := id hB
  refine mg_callV [.int (nI 64)] rfl rfl rfl b1 rfl rfl rfl rfl (c_Te_add hB (fun M1 p1 p2 => ?_))
  have w1 := hw.add 64
  have R1 := hR.keep p2
  have A1 := hA.keep p2 s5.1 s5.2
  refine mg_run 1 rfl ?_
  refine mg_get rfl rfl R1.1 rfl ?_
  refine mg_run 1 rfl ?_
  obtain ⟨fb1, b2, -⟩ := id p1
  refine mg_callV [.int (nI 64)] rfl rfl rfl b2 rfl rfl rfl rfl (c_Te_add p1 (fun M2 q1 q2 => ?_))
  have w2 := w1.add 64
  have R2 := R1.keep q2
  have A2 := A1.keep q2 s5.1 s5.2
  refine mg_run 1 rfl ?_
  refine mg_get rfl rfl R2.1 rfl ?_
  refine mg_run 1 rfl ?_
  refine mg_get rfl rfl R2.1 rfl ?_
  refine mg_run 2 rfl ?_
  obtain ⟨fb2, b3, -⟩ := id q1
  refine mg_callV [.ref a, .int (nI s), .int (nI (te_en r s))] rfl rfl rfl b3 rfl rfl rfl rfl (c_Te_addPart q1 A2 s5 g1 e1 (fun M3 u1 u2 => ?_))
  have w3 := w2.adds (te_pt r s (te_en r s))
  have R3 := R2.keep u2
  have A3 := A2.keep u2 s5.1 s5.2
  refine mg_run 1 rfl ?_
  refine mg_get rfl rfl R3.1 rfl ?_
  refine mg_run 1 rfl ?_
  refine mg_get rfl rfl R3.1 rfl ?_
  refine mg_run 2 rfl ?_
  obtain ⟨fb3, b4, -⟩ := id u1
  refine mg_callV [.ref a, .int (nI (te_en r (te_en r s))), .int (nI (te_en r (te_en r (te_en r s))))] rfl rfl rfl b4 rfl rfl rfl rfl (c_Te_addPart u1 A3 s5 g3 e3 (fun M4 v1 v2 => ?_))
  have w4 := w3.adds (te_pt r (te_en r (te_en r s)) (te_en r (te_en r (te_en r s))))
  have R4 := R3.keep v2
  have A4 := A3.keep v2 s5.1 s5.2
  refine mg_run 1 rfl ?_
  refine mg_get rfl rfl R4.1 rfl ?_
  refine mg_run 1 rfl ?_
  obtain ⟨fb4, b5, -⟩ := id v1
  refine mg_callV [.int (nI 64)] rfl rfl rfl b5 rfl rfl rfl rfl (c_Te_add v1 (fun M5 x1 x2 => ?_))
  have w5 := w4.add 64
  have R5 := R4.keep x2
  have A5 := A4.keep x2 s5.1 s5.2
  refine mg_run 1 rfl ?_
  refine mg_get rfl rfl R5.1 rfl ?_
  refine mg_run 1 rfl ?_
  refine mg_get rfl rfl R5.1 rfl ?_
  refine mg_run 2 rfl ?_
  obtain ⟨fb5, b6, -⟩ := id x1
  refine mg_callV [.ref a, .int (nI (te_en r s)), .int (nI (te_en r (te_en r (te_en r s))))] rfl rfl rfl b6 rfl rfl rfl rfl (c_Te_addPart x1 A5 s5 (Nat.le_trans g2 g3) e3 (fun M6 y1 y2 => ?_))
  have w6 := w5.adds (te_pt r (te_en r s) (te_en r (te_en r (te_en r s))))
  refine mg_run 1 rfl ?_
  refine mg_ir rfl rfl rfl rfl ?_
  refine hQ M6 _ (R5.keep y2) y1 ?_ (((((p2.tr q2).tr u2).tr v2).tr x2).tr y2)
  simp only [List.append_assoc] at w6 ⊢
  exact w6
theorem c_Re_writeReplacement (hb : ∀ i, r.getD i 0 < 10000) {i : Nat} (hi : ¬ te_rh r i = 0) (hR : re_is M a b o dep) (hA : te_is M a r ga) (hB : te_is M b bf.1 bf.2) (hw : wr bf out)
    (hQ : ∀ M' bf' dep', re_is M' a b o dep' → te_is M' b bf'.1 bf'.2 → wr bf' (out ++ te_out r i) → mm_on (re_P b) M M' → Q (.inl (some (.int (nI (te_end r i))))) M') : mm_Ct l sc Y_Re_writeReplacement M [.ref 39, .int (nI i)] Q := by
  have h4 := hA.len
  obtain ⟨k0, k1, k2, k3⟩ := te_rh_len hi
  have hrl := te_rh_lt r i
  obtain ⟨r1, r2, r3⟩ := id hR
  obtain ⟨⟨s1, s2, s3, s4⟩, s5, s6, s7, s8, s9⟩ := re_sep r3
  obtain ⟨fa, a1, a2, a3, a4, a5⟩ := id hA
  obtain ⟨fb, b1, -⟩ := id hB
  have hb31 : ∀ i, r.getD i 0 < 2 ^ 31 := fun i => Nat.lt_trans (hb i) (by decide)
  refine mm_by k_Re_writeReplacement w_Re_writeReplacement rfl rfl ?_
  refine mg_run 1 rfl ?_
  refine mg_get rfl rfl r1 rfl ?_
  refine mg_run 1 rfl ?_
  refine mg_callV [.int (nI i)] rfl rfl rfl a1 rfl rfl rfl rfl (c_Te_redexHead hA hb31 (by omega) ?_)
  refine mg_run 3 rfl ?_
  refine mg_ne rfl hrl (by decide) (fun h1 => ?_) (fun h1 => ?_)
  · refine mg_run 2 rfl ?_
    refine mg_ne rfl hrl (by decide) (fun h2 => ?_) (fun h2 => ?_)
    · refine mg_run 2 rfl ?_
      refine mg_ne rfl hrl (by decide) (fun h3 => ?_) (fun h3 => ?_)
      · have e1 := te_en_le (r := r) (s := i + 2) (by omega)
        refine mg_run 2 rfl ?_
        refine mg_addN rfl ?_
        refine mg_run 2 rfl ?_
        refine mg_get rfl rfl r1 rfl ?_
        refine mg_run 1 rfl ?_
        refine mg_callV [.int (nI (i + 2))] rfl rfl rfl a1 rfl rfl rfl rfl (c_Te_endOf hA hb31 (by omega) ?_)
        refine mg_run 2 rfl ?_
        refine mg_get rfl rfl r1 rfl ?_
        refine mg_run 1 rfl ?_
        refine mg_get rfl rfl r1 rfl ?_
        refine mg_run 2 rfl ?_
        refine mg_callV [.ref a, .int (nI (i + 2)), .int (nI (te_en r (i + 2)))] rfl rfl rfl b1 rfl rfl rfl rfl (c_Te_addPart hB hA s5 (te_en_ge r _) e1 (fun M1 p1 p2 => ?_))
        refine mg_run 2 rfl ?_
        refine mg_ne rfl hrl (by decide) (fun h9 => ?_) (fun h9 => absurd h9 h3)
        refine mg_run 1 rfl ?_
        refine mg_ir rfl rfl rfl rfl ?_
        have q := hQ M1 _ dep (hR.keep p2) p1 (by unfold te_out; rw [if_neg h1, if_neg h2, if_neg h3]; exact hw.adds _) (p2.wk (fun i h => Or.inl h))
        unfold te_end at q
        rw [if_neg h1, if_neg h2, if_neg h3] at q
        exact q
      · have e1 := te_en_le (r := r) (s := i + 3) (by have := k2 h3; omega)
        refine mg_run 2 rfl ?_
        refine mg_addN rfl ?_
        refine mg_run 3 rfl ?_
        refine mg_get rfl rfl r1 rfl ?_
        refine mg_run 1 rfl ?_
        refine mg_callV [.int (nI (i + 3))] rfl rfl rfl a1 rfl rfl rfl rfl (c_Te_endOf hA hb31 (by have := k2 h3; omega) ?_)
        refine mg_run 2 rfl ?_
        refine mg_get rfl rfl r1 rfl ?_
        refine mg_run 1 rfl ?_
        refine mg_get rfl rfl r1 rfl ?_
        refine mg_run 2 rfl ?_
        refine mg_callV [.ref a, .int (nI (i + 3)), .int (nI (te_en r (i + 3)))] rfl rfl rfl b1 rfl rfl rfl rfl (c_Te_addPart hB hA s5 (te_en_ge r _) e1 (fun M1 p1 p2 => ?_))
        have R1 := hR.keep p2
        have A1 := hA.keep p2 s5.1 s5.2
        obtain ⟨fa1, c1, -⟩ := id A1
        refine mg_run 2 rfl ?_
        refine mg_ne rfl hrl (by decide) (fun h9 => absurd h3 h9) (fun h9 => ?_)
        refine mg_run 1 rfl ?_
        refine mg_get rfl rfl R1.1 rfl ?_
        refine mg_run 1 rfl ?_
        refine mg_callV [.int (nI (te_en r (i + 3)))] rfl rfl rfl c1 rfl rfl rfl rfl (c_Te_endOf A1 hb31 e1 ?_)
        refine mg_run 1 rfl ?_
        refine mg_ir rfl rfl rfl rfl ?_
        have q := hQ M1 _ dep R1 p1 (by unfold te_out; rw [if_neg h1, if_neg h2, if_pos h3]; exact hw.adds _) (p2.wk (fun i h => Or.inl h))
        unfold te_end at q
        rw [if_neg h1, if_neg h2, if_pos h3] at q
        exact q
    · refine mg_run 3 rfl ?_
      refine mg_addN rfl ?_
      refine mg_callV [.int (nI (i + 4))] rfl rfl rfl r1 rfl rfl rfl rfl (c_Re_writeShared hb (by have := k3 h2; omega) hR hA hB hw (fun M1 bf1 p1 p2 p3 p4 => ?_))
      refine mg_ir rfl rfl rfl rfl ?_
      have q := hQ M1 bf1 dep p1 p2 (by unfold te_out; rw [if_neg h1, if_pos h2]; exact p3) (p4.wk (fun i h => Or.inl h))
      unfold te_end at q
      rw [if_neg h1, if_pos h2] at q
      exact q
  · refine mg_run 3 rfl ?_
    refine mg_addN rfl ?_
    refine mg_callV [.int (nI (i + 2))] rfl rfl rfl r1 rfl rfl rfl rfl (c_Re_writeBody hb (by omega) hR hA hB hw (fun M1 bf1 dep1 p1 p2 p3 p4 => ?_))
    refine mg_ir rfl rfl rfl rfl ?_
    have q := hQ M1 bf1 dep1 p1 p2 (by unfold te_out; rw [if_pos h1]; exact p3) p4
    unfold te_end at q
    rw [if_pos h1] at q
    exact q
end
